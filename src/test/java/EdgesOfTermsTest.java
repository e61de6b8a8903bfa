/** The edges that the document names in "What it is" and "Terms", each sentence with a test of its own. */
public final class EdgesOfTermsTest {
    // ---- what it is; columns, rows, cells

    private static void whatItIs() {
        Checks.holds("An object is used for at most 512 calls after it has been made", () -> {
            TablePages x = full();
            for (int i = 136; i < 511; i++) {
                int call = i;
                Checks.due("call " + call, x.border(3, 0, 0, call % 5 + 1), call == 136 ? 0 : (call - 1) % 5 + 1);
            }
            Checks.due("call 511", x.tableHeight(), 24);
            Checks.due("call 512", x.used(0), 29);
        });
    }

    /** 6 columns, 3 head, 24 body and 2 foot rows, 100 cells: 135 calls. */
    private static TablePages full() {
        TablePages x = Checks.content(6, 24);
        for (int i = 0; i < 3; i++) x.row(0, 0, false);
        for (int i = 0; i < 2; i++) x.row(2, 0, false);
        for (int i = 0; i < 100; i++) x.cell(i / 6, i % 6, 1, 1);
        return x;
    }

    private static void columns() {
        Checks.holds("Columns are numbered from 0 as they are made, at most 6", () -> {
            TablePages x = new TablePages();
            for (int i = 0; i < 6; i++) Checks.due("column " + i, x.column(1, i + 1), i);
            Checks.refused(x, Checks.STATE, "a seventh", y -> y.column(1, 7));
            Checks.due("widths of all 6", Checks.widths(x, 6), "1 2 3 4 5 6");
            Checks.refused(x, Checks.INDEX, "width of column 6", y -> y.width(6));
            Checks.due("a row of 6 columns", x.row(1, 0, false), 0);
            for (int i = 0; i < 6; i++) Checks.due("place " + i, x.cell(0, i, 1, 1), i);
        });
        Checks.holds("a column is of content, fixed, with a width, or a share, with a percentage", () -> {
            TablePages x = Checks.columns(0, 50, 1, 50, 2, 50);
            Checks.due("0, 50 wide, and 50 of 58 hundredths", Checks.widths(x, 3), "0 50 29");
        });
        Checks.holds("it is totalled or not, and hidden or not, as at first", () -> {
            TablePages x = Checks.content(2, 1);
            Checks.due("no total", x.used(0), 1);
            Checks.due("column 0 is shown", x.edge(0, 0, 0), 0);
            Checks.due("column 1 is shown", x.edge(0, 1, 0), 0);
            Checks.due("the first totalled", x.totalled(1), true);
            Checks.due("the first hide", x.hide(1), true);
        });
    }

    private static void rows() {
        Checks.holds("Rows are numbered from 0 as they are made", () -> {
            TablePages x = Checks.content(1, 0);
            int[] parts = {2, 1, 0, 1, 0, 2};
            for (int i = 0; i < parts.length; i++) {
                int part = parts[i];
                Checks.due("a row of part " + part, x.row(part, 0, false), i);
            }
        });
        Checks.holds("a row is a head row, at most 3", () -> rowsOfPart(0, 3));
        Checks.holds("a body row, at most 24", () -> rowsOfPart(1, 24));
        Checks.holds("or a foot row, at most 2", () -> rowsOfPart(2, 2));
        Checks.holds("a body row has a group, 0 for none", () -> {
            for (int group : new int[] {0, 1, 9}) {
                TablePages x = Checks.content(1, 0);
                x.row(1, group, false);
                x.totalled(0);
                Checks.due("row, subtotal and total of group " + group, x.used(0), group == 0 ? 2 : 3);
            }
        });
        Checks.holds("and may break or not", () -> {
            Checks.due("may", Checks.spread(Checks.sheet(3, 1, -3), 1), "2 1");
            Checks.due("may not", Checks.spread(Checks.sheet(4, 2, 3), 1), "0 3");
        });
        Checks.holds("The rows of a part (head, body or foot) stand in the order in which they were made", () -> {
            TablePages x = Checks.content(1, 0);
            for (int part : new int[] {2, 1, 0, 2, 1, 0}) x.row(part, 0, false);
            for (int row = 0; row < 6; row++) x.border(1, row, 0, row % 3 + 1);
            // Below the tops of heads 2 and 5, bodies 1 and 4, feet 0 and 3.
            Checks.due("head 5 is below head 2", x.edge(2, 0, 2), 32);
            Checks.due("body 1 is below head 5", x.edge(5, 0, 2), 22);
            Checks.due("body 4 is below body 1", x.edge(1, 0, 2), 22);
            Checks.due("foot 0 is below body 4", x.edge(4, 0, 2), 12);
            Checks.due("foot 3 is below foot 0", x.edge(0, 0, 2), 12);
            Checks.due("nothing is below foot 3", x.edge(3, 0, 2), 0);
        });
        Checks.holds("body rows as they were sorted", () -> {
            TablePages x = Checks.content(1, 2);
            Checks.figure(x, 0, 0, 200, 0);
            Checks.figure(x, 1, 0, 100, 0);
            x.sort(0, false);
            x.border(1, 0, 0, 4);
            Checks.due("row 0 is below row 1", x.edge(1, 0, 2), 42);
            x.row(1, 0, false);
            x.border(1, 0, 2, 5);
            Checks.due("and a new row is below row 0", x.edge(2, 0, 0), 52);
        });
    }

    private static void rowsOfPart(int part, int most) {
        TablePages x = Checks.content(1, 0);
        for (int i = 0; i < most; i++) Checks.due("row " + i, x.row(part, 0, false), i);
        Checks.refused(x, Checks.STATE, "one more", y -> y.row(part, 0, false));
        Checks.due("its lines", x.used(0), most);
        Checks.due("the last one is there", x.height(most - 1), 1);
        Checks.refused(x, Checks.INDEX, "the one more is not", y -> y.height(most));
        Checks.due("a row of another part", x.row((part + 1) % 3, 0, false), most);
        Checks.due("and of the third", x.row((part + 2) % 3, 0, false), most + 1);
    }

    private static void cells() {
        Checks.holds("Cells are numbered from 0 as they are made, at most 100", () -> {
            TablePages x = Checks.content(6, 24);
            for (int i = 0; i < 99; i++) Checks.due("cell " + i, x.cell(23 - i / 6, i % 6, 1, 1), i);
            Checks.due("the hundredth", x.cell(0, 0, 1, 1), 99);
            Checks.refused(x, Checks.STATE, "one more", y -> y.cell(0, 1, 1, 1));
            x.word(99, 7, 0);
            Checks.due("the hundredth's word", x.least(0), 7);
            Checks.due("and its line", x.lines(99), 1);
            Checks.refused(x, Checks.INDEX, "a cell 100", y -> y.lines(100));
        });
        Checks.holds("each begins in a row and a column, and spans some rows of that part, one below the other", () -> {
            TablePages x = Checks.content(1, 0);
            for (int part : new int[] {1, 0, 1, 2, 1, 0, 2}) x.row(part, 0, false);
            Checks.due("3 body rows", x.cell(0, 0, 3, 1), 0);
            Checks.due("2 head rows", x.cell(1, 0, 2, 1), 1);
            Checks.due("2 foot rows", x.cell(3, 0, 2, 1), 2);
            int[] cells = {0, 1, 0, 2, 0, 1, 2};
            for (int row = 0; row < cells.length; row++) Checks.due("row " + row, x.at(row, 0), cells[row]);
        });
        Checks.holds("and some columns, side by side", () -> {
            TablePages x = Checks.content(6, 2);
            Checks.due("columns 2 to 4", x.cell(0, 2, 1, 3), 0);
            int[] cells = {-1, -1, 0, 0, 0, -1};
            for (int column = 0; column < 6; column++) Checks.due("column " + column, x.at(0, column), cells[column]);
            for (int column = 0; column < 6; column++) Checks.due("not the next row", x.at(1, column), -1);
        });
        Checks.holds("A place, of a row and a column, is of one cell at most", () -> {
            for (int[] at : new int[][] {{0, 0}, {0, 1}, {0, 2}, {1, 0}, {1, 3}, {2, 0}, {3, 1}, {3, 2}}) {
                TablePages x = Checks.content(4, 4);
                x.cell(1, 1, 2, 2);
                Checks.due("beside it, at " + at[0] + ", " + at[1], x.cell(at[0], at[1], 1, 1), 1);
            }
            for (int[] on : new int[][] {{1, 1, 1, 1}, {1, 2, 1, 1}, {2, 1, 1, 1}, {2, 2, 1, 1}, {0, 0, 2, 2}, {0, 2, 2, 2},
                {2, 0, 2, 2}, {2, 2, 2, 2}, {0, 0, 4, 4}, {1, 0, 1, 2}, {0, 1, 2, 1}}) {
                TablePages x = Checks.content(4, 4);
                x.cell(1, 1, 2, 2);
                Checks.refused(x, Checks.STATE, "on it, from " + on[0] + ", " + on[1],
                    y -> y.cell(on[0], on[1], on[2], on[3]));
            }
        });
        Checks.holds("a place without a cell is empty", () -> {
            TablePages x = Checks.content(2, 2);
            x.cell(0, 1, 1, 1);
            Checks.due("place 0, 0", x.at(0, 0), -1);
            Checks.due("place 1, 1", x.at(1, 1), -1);
            Checks.due("place 0, 1", x.at(0, 1), 0);
        });
    }

    private static void shownAndOut() {
        Checks.holds("A cell shows the columns that it spans and that are not hidden", () -> {
            TablePages x = Checks.columns(1, 5, 1, 5, 1, 5);
            x.row(1, 0, false);
            int c = Checks.wide(x, 0, 0, 3, 5, 5, 5);
            Checks.due("17 wide", x.lines(c), 1);
            x.hide(1);
            Checks.due("11 wide", x.lines(c), 2);
            x.hide(0);
            Checks.due("5 wide", x.lines(c), 3);
        });
        Checks.holds("one that shows none is out, and counts for nothing", () -> {
            TablePages x = Checks.columns(1, 5, 1, 5, 1, 5);
            x.row(1, 0, false);
            int c = Checks.wide(x, 0, 0, 2, 5, 5, 5, 5);
            x.hide(0);
            Checks.due("it shows one", x.height(0), 4);
            x.hide(1);
            Checks.due("it shows none", x.height(0), 1);
            Checks.due("its lines", x.lines(c), 0);
            Checks.due("lines used", x.used(0), 1);
            x.hide(0);
            Checks.due("it shows one again", x.used(0), 4);
        });
        Checks.holds("neither do its figure", () -> {
            TablePages x = Checks.content(2, 2);
            Checks.figure(x, 0, 0, 500, 0);
            Checks.figure(x, 1, 0, 100, 0);
            x.hide(0);
            Checks.due("in the total", x.total(0), 0);
            Checks.due("in a sort", x.sort(0, false), 0);
            Checks.due("in what is carried", x.carried(0, 0), 0);
            Checks.due("cell by cell", x.carriedByCells(0, 0), 0);
            x.hide(0);
            Checks.due("the total then", x.total(0), 600);
        });
        Checks.holds("and its note", () -> {
            TablePages x = Checks.content(2, 1);
            x.note(x.cell(0, 0, 1, 1), 3);
            x.hide(0);
            Checks.due("on its page", x.notesOn(0), 0);
            Checks.due("lines used", x.used(0), 1);
            x.notesAtEnd();
            Checks.due("at the end", x.notesOn(0), 0);
            Checks.due("lines used", x.used(0), 1);
            x.hide(0);
            Checks.due("shown again", x.used(0), 4);
        });
        Checks.holds("a hidden column counts as not totalled", () -> {
            TablePages x = Checks.content(2, 0);
            x.row(1, 1, false);
            x.totalled(0);
            Checks.due("row, subtotal, total", x.used(0), 3);
            x.hide(0);
            Checks.due("the row alone", x.used(0), 1);
            x.totalled(1);
            Checks.due("the other column is totalled", x.used(0), 3);
            x.totalled(1);
            x.hide(0);
            Checks.due("shown again, it is totalled as before", x.used(0), 3);
        });
        Checks.holds("and has no figures", () -> {
            TablePages x = Checks.content(2, 0);
            x.row(1, 1, false);
            Checks.figure(x, 0, 0, 12345, 2);
            x.hide(0);
            Checks.due("least", x.least(0), 0);
            Checks.due("most", x.most(0), 0);
            Checks.due("width", x.width(0), 0);
            Checks.due("subtotal", x.subtotal(0, 0), 0);
        });
    }

    private static void contentsOfCells() {
        Checks.holds("A cell has words, or a figure, or neither", () -> {
            TablePages x = Checks.content(1, 1);
            int c = x.cell(0, 0, 1, 1);
            Checks.due("neither", x.lines(c), 0);
            x.word(c, 4, 0);
            Checks.refused(x, Checks.STATE, "a figure to words", y -> y.figure(c, 100, 0));
            x.empty(c);
            x.figure(c, 100, 0);
            Checks.refused(x, Checks.STATE, "a word to a figure", y -> y.word(c, 4, 0));
            x.empty(c);
            Checks.due("neither again", x.lines(c), 0);
            Checks.due("a word then", x.word(c, 4, 0), 1);
        });
        Checks.holds("A word has a length, and may have a cut", () -> {
            TablePages x = Checks.content(2, 1);
            x.word(x.cell(0, 0, 1, 1), 10, 0);
            x.word(x.cell(0, 1, 1, 1), 10, 5);
            Checks.due("without and with", Checks.leasts(x, 2), "10 6");
        });
        Checks.holds("A figure is a number of hundredths, and shows 0 to 2 decimals", () -> {
            TablePages x = Checks.content(1, 1);
            int c = x.cell(0, 0, 1, 1);
            for (int decimals = 0; decimals <= 2; decimals++) {
                x.figure(c, 100, decimals);
                Checks.due("1 with " + decimals, x.least(0), decimals == 0 ? 1 : decimals + 2);
                Checks.due("is 1 all the same", x.total(0), 100);
            }
            Checks.refused(x, Checks.ARGUMENT, "3 decimals", y -> y.figure(c, 100, 3));
            Checks.refused(x, Checks.ARGUMENT, "-1 decimals", y -> y.figure(c, 100, -1));
        });
        Checks.holds("it can be in a cell of one row and one column alone", () -> {
            TablePages x = Checks.content(3, 3);
            int one = x.cell(0, 0, 1, 1), rows = x.cell(1, 0, 2, 1), columns = x.cell(0, 1, 1, 2);
            x.figure(one, 100, 0);
            Checks.refused(x, Checks.STATE, "2 rows", y -> y.figure(rows, 100, 0));
            Checks.refused(x, Checks.STATE, "2 columns", y -> y.figure(columns, 100, 0));
            x.hide(2);
            Checks.refused(x, Checks.STATE, "2 columns, one of them hidden", y -> y.figure(columns, 100, 0));
        });
        Checks.holds("A cell may have a note, of some lines", () -> {
            TablePages x = Checks.content(1, 1);
            int c = x.cell(0, 0, 1, 1);
            for (int lines = 0; lines <= 3; lines++) {
                x.note(c, lines);
                Checks.due("lines of the note", x.notesOn(0), lines);
            }
        });
    }

    private static void fullTables() {
        Checks.holds("at most 24, each in a group: 24 subtotals, the total, and notes at the end", () -> {
            TablePages x = Checks.columns(1, 9, 0, 1);
            for (int i = 0; i < 24; i++) x.row(1, 1 + i % 2, false);
            for (int i = 0; i < 24; i++) Checks.figure(x, i, 1, 100 * i, 0);
            x.totalled(1);
            x.notesAtEnd();
            x.note(23, 3);
            x.setPaper(60, 100);
            Checks.due("lines on one page", Checks.used(x), "52");
            Checks.due("lines of notes", Checks.notes(x), "3");
            for (int i = 0; i < 24; i++) Checks.due("subtotal " + i, x.subtotal(i, 1), 100 * i);
            Checks.due("carried out", x.carried(0, 1), 27600);
        });
        Checks.holds("at most 24 rows of 24 lines, 252 lines of notes, a line on each page", () -> {
            TablePages x = Checks.columns(1, 9, 1, 1, 1, 1, 1, 1);
            for (int i = 0; i < 24; i++) x.row(1, 1 + i % 2, true);
            for (int i = 0; i < 24; i++) {
                int c = x.cell(i, 0, 1, 1);
                for (int j = 0; j < 12; j++) x.word(c, 16, 8);
                x.note(c, 3);
            }
            for (int i = 0; i < 60; i++) x.note(x.cell(i / 3, 1 + i % 3, 1, 1), 3);
            x.totalled(0);
            x.notesAtEnd();
            x.setPaper(60, 4);
            Checks.due("pages: 1, 573, 24, 1, and 251 for the notes", x.pages(), 850);
            Checks.due("the last row begins", x.pageOf(23), 573);
            Checks.due("its line", x.linesOn(23, 573) + x.linesOn(23, 596), 2);
            Checks.due("the last page", x.used(849), 4);
            Checks.due("its notes", x.notesOn(849), 2);
            Checks.due("the notes of the one before", x.notesOn(848), 1);
            Checks.due("what is carried out of it", x.carried(849, 0), 0);
            Checks.refused(x, Checks.ARGUMENT, "a page 850", y -> y.used(850));
            Checks.due("all pages are new", x.look(), 850);
            Checks.due("none is", x.look(), 0);
            x.setPaper(60, 3);
            Checks.refused(x, Checks.STATE, "no line on a page", y -> y.pages());
        });
        Checks.holds("at most 100 cells, the last one over three columns of content", () -> {
            TablePages x = Checks.columns(0, 1, 0, 1, 0, 1, 1, 5, 1, 5, 1, 5);
            Checks.body(x, 24);
            for (int i = 0; i < 72; i++) x.cell(i / 3, 3 + i % 3, 1, 1);
            for (int i = 0; i < 27; i++) x.cell(i / 3, i % 3, 1, 1);
            for (int i = 72; i < 75; i++) for (int j = 0; j < 8; j++) x.word(i, 1, 0);
            Checks.due("the hundredth", Checks.wide(x, 10, 0, 3, 5, 5, 5, 5, 5, 5, 5, 5, 5, 5), 99);
            Checks.due("9, 9 and 9: 2 and 2 and 22 rows", x.leastHeight(), 26);
            x.hide(0);
            x.hide(1);
            x.hide(2);
            Checks.due("it is out", x.lines(99), 0);
            Checks.due("24 rows of 1", x.tableHeight(), 24);
        });
    }

    // ---- least and most widths

    private static int leastOf(int length, int cut) {
        TablePages x = Checks.content(1, 1);
        x.word(x.cell(0, 0, 1, 1), length, cut);
        return x.least(0);
    }

    private static void pieces() {
        Checks.holds("of a word without a cut its length", () -> {
            Checks.due("1", leastOf(1, 0), 1);
            Checks.due("20", leastOf(20, 0), 20);
        });
        Checks.holds("of a word with a cut behind c letters c + 1, and its length less c", () -> {
            int[][] due = {{2, 1, 2}, {3, 1, 2}, {3, 2, 3}, {4, 1, 3}, {19, 9, 10}, {20, 1, 19}, {20, 9, 11}, {20, 10, 11},
                {20, 11, 12}, {20, 19, 20}};
            for (int[] d : due) Checks.due(d[0] + " cut behind " + d[1], leastOf(d[0], d[1]), d[2]);
        });
        Checks.holds("The least width of a cell with words is the greatest of their pieces", () -> {
            TablePages x = Checks.content(3, 1);
            Checks.words(x, 0, 0, 7, 3, 5);
            Checks.words(x, 0, 1, 3, 5, 7);
            x.word(Checks.words(x, 0, 2, 8), 14, 7);
            Checks.due("first, last, and 8 of 8, 8 and 7", Checks.leasts(x, 3), "7 7 8");
        });
        Checks.holds("The most width is the sum of the lengths, and 1 between each two", () -> {
            TablePages x = Checks.content(3, 1);
            Checks.words(x, 0, 0, 7);
            Checks.words(x, 0, 1, 7, 1);
            Checks.words(x, 0, 2, 20, 20, 20, 20, 20, 20, 20, 20, 20, 20, 20, 20);
            Checks.due("one, two and 12 words", Checks.mosts(x, 3), "7 9 251");
        });
        Checks.holds("Others have 0 for both", () -> {
            TablePages x = Checks.content(3, 1);
            int emptied = Checks.words(x, 0, 0, 9);
            x.empty(emptied);
            x.cell(0, 1, 1, 2);
            Checks.due("least", Checks.leasts(x, 3), "0 0 0");
            Checks.due("most", Checks.mosts(x, 3), "0 0 0");
        });
    }

    /** The left part and the right part of a figure that is alone in its column. */
    private static String parts(int hundredths, int decimals, int note) {
        TablePages x = Checks.content(1, 1);
        int c = Checks.figure(x, 0, 0, hundredths, decimals);
        x.note(c, note);
        int left = x.point(c) - x.begins(c);
        int right = x.width(0) - x.point(c);
        Checks.due("least", x.least(0), left + right);
        Checks.due("most", x.most(0), left + right);
        return left + " " + right;
    }

    private static void figures() {
        Checks.holds("A figure shows its sign, if it is below 0", () -> {
            Checks.due("-0.01", parts(-1, 2, 0), "2 3");
            Checks.due("0.00", parts(0, 2, 0), "1 3");
            Checks.due("0.01", parts(1, 2, 0), "1 3");
            Checks.due("-1", parts(-100, 0, 0), "2 0");
            Checks.due("-10000.00", parts(-1000000, 2, 0), "6 3");
        });
        Checks.holds("its whole part, at least one digit", () -> {
            int[] hundredths = {0, 9, 10, 99, 100, 101, 999, 1000, 9999, 10000, 99999, 100000, 999999, 1000000};
            int[] digits = {1, 1, 1, 1, 1, 1, 1, 2, 2, 3, 3, 4, 4, 5};
            for (int i = 0; i < hundredths.length; i++) {
                Checks.due(hundredths[i] + " hundredths", parts(hundredths[i], 2, 0), digits[i] + " 3");
                if (i > 0) Checks.due(-hundredths[i] + " hundredths", parts(-hundredths[i], 2, 0), digits[i] + 1 + " 3");
            }
        });
        Checks.holds("and, if it shows decimals, a point and these", () -> {
            Checks.due("7", parts(700, 0, 0), "1 0");
            Checks.due("7.0", parts(700, 1, 0), "1 2");
            Checks.due("7.00", parts(700, 2, 0), "1 3");
        });
        Checks.holds("its right part the point and what is behind it, and 1 more if its cell has a note", () -> {
            Checks.due("7 and a note of 1 line", parts(700, 0, 1), "1 1");
            Checks.due("7.0 and a note of 3 lines", parts(700, 1, 3), "1 3");
            Checks.due("7.00 and a note of 2 lines", parts(700, 2, 2), "1 4");
            TablePages x = Checks.content(1, 1);
            x.note(Checks.figure(x, 0, 0, 700, 0), 1);
            x.notesAtEnd();
            Checks.due("also if notes stand at the end", x.least(0), 2);
            x.note(0, 0);
            Checks.due("taken away", x.least(0), 1);
        });
        Checks.holds("The left part of a column is the greatest left part of its figures in head, body and foot", () -> {
            for (int part = 0; part < 3; part++) {
                TablePages x = Checks.content(1, 0);
                for (int i = 0; i < 3; i++) Checks.figure(x, x.row(i, 0, false), 0, i == part ? 1000 : 900, 0);
                Checks.due("the greatest in part " + part, x.least(0), 2);
            }
        });
        Checks.holds("its right part is the greatest right part of its figures", () -> {
            for (int part = 0; part < 3; part++) {
                TablePages x = Checks.content(1, 0);
                for (int i = 0; i < 3; i++) Checks.figure(x, x.row(i, 0, false), 0, 100, i == part ? 2 : 1);
                Checks.due("the greatest in part " + part, x.least(0), 4);
            }
            TablePages y = Checks.content(1, 2);
            Checks.figure(y, 0, 0, -100000, 0);
            Checks.figure(y, 1, 0, 125, 2);
            Checks.due("both parts are of different figures", y.least(0), 8);
        });
        Checks.holds("Both are 0 without figures (of a column that is totalled, too)", () -> {
            TablePages x = Checks.content(2, 1);
            int c = Checks.figure(x, 0, 1, 500, 0);
            x.totalled(0);
            x.totalled(1);
            Checks.due("totalled, without and with one", Checks.leasts(x, 2), "0 1");
            x.empty(c);
            Checks.due("without", Checks.leasts(x, 2), "0 0");
            Checks.due("most", Checks.mosts(x, 2), "0 0");
        });
    }

    /** The least width of a totalled column with these whole figures in the body. */
    private static int totalledLeast(int... wholes) {
        TablePages x = Checks.content(1, wholes.length);
        for (int i = 0; i < wholes.length; i++) Checks.figure(x, i, 0, 100 * wholes[i], 0);
        x.totalled(0);
        return x.least(0);
    }

    private static void sumsInColumns() {
        Checks.holds("if it is totalled, also of the sum of all body figures in it that are above 0", () -> {
            Checks.due("9 of 5 and 4", totalledLeast(5, 4), 1);
            Checks.due("10 of 5 and 5", totalledLeast(5, 5), 2);
            Checks.due("10 of 5, 5 and not -9", totalledLeast(5, -9, 5), 2);
            Checks.due("1 of 1 and 0", totalledLeast(1, 0), 1);
            Checks.due("100 of 50, 50 and not -1", totalledLeast(50, -1, 50), 3);
            TablePages y = Checks.content(1, 4);
            Checks.figure(y, 0, 0, 500, 2);
            Checks.figure(y, 1, 0, 499, 2);
            y.totalled(0);
            Checks.due("9.99 of 5.00 and 4.99", y.least(0), 4);
            y.figure(0, 5000, 2);
            y.figure(1, 4999, 2);
            Checks.figure(y, 2, 0, -100, 0);
            Checks.due("99.99 of 50.00, 49.99 and not -1", y.least(0), 5);
            TablePages x = Checks.content(1, 24);
            for (int i = 0; i < 24; i++) Checks.figure(x, i, 0, 1000000, 0);
            Checks.due("not totalled", x.least(0), 5);
            x.totalled(0);
            Checks.due("240000 of 24 greatest figures", x.least(0), 6);
            x.totalled(0);
            Checks.due("not any more", x.least(0), 5);
        });
        Checks.holds("and of that of all that are below 0", () -> {
            Checks.due("-9 of -5 and -4", totalledLeast(-5, -4), 2);
            Checks.due("-10 of -5 and -5", totalledLeast(-5, -5), 3);
            Checks.due("-10 of -5, -5 and not 9", totalledLeast(-5, 9, -5), 3);
            Checks.due("-1 of -1 and 0", totalledLeast(-1, 0), 2);
            TablePages x = Checks.content(1, 2);
            Checks.figure(x, 0, 0, -500, 2);
            Checks.figure(x, 1, 0, -499, 2);
            x.totalled(0);
            Checks.due("-9.99 of -5.00 and -4.99", x.least(0), 5);
            Checks.figure(x, x.row(1, 0, false), 0, -1, 2);
            Checks.due("-10.00 of these and -0.01", x.least(0), 6);
        });
        Checks.holds("of all body figures, once each, as often as it is asked for", () -> {
            TablePages x = Checks.content(1, 2);
            Checks.figure(x, 0, 0, 400, 0);
            Checks.figure(x, 1, 0, -400, 0);
            x.totalled(0);
            for (int i = 0; i < 5; i++) {
                x.setPaper(60, 30);
                Checks.due("4 and -4", x.least(0), 2);
            }
        });
        Checks.holds("0 if there are none", () -> {
            Checks.due("0 above and below", totalledLeast(0), 1);
            TablePages x = Checks.content(1, 1);
            Checks.figure(x, x.row(0, 0, false), 0, 500, 0);
            x.totalled(0);
            Checks.due("a figure in the head alone", x.least(0), 1);
        });
        Checks.holds("the sum of all body figures", () -> {
            TablePages x = Checks.content(1, 1);
            Checks.figure(x, 0, 0, 500, 0);
            Checks.figure(x, x.row(0, 0, false), 0, 500, 0);
            Checks.figure(x, x.row(2, 0, false), 0, 500, 0);
            x.totalled(0);
            Checks.due("not of heads and feet", x.least(0), 1);
        });
    }

    private static void singleColumns() {
        Checks.holds("The least width of a column is the greatest one of the cells that show that column alone", () -> {
            for (int part = 0; part < 3; part++) {
                TablePages x = Checks.content(2, 0);
                for (int i = 0; i < 3; i++) Checks.words(x, x.row(i, 0, false), 0, i == part ? 7 : 6);
                Checks.due("the greatest in part " + part, Checks.leasts(x, 2), "7 0");
            }
            TablePages y = Checks.content(3, 1);
            Checks.wide(y, 0, 0, 3, 9);
            y.hide(0);
            Checks.due("two columns are shown", Checks.leasts(y, 3), "0 4 4");
            y.hide(2);
            Checks.due("column 1 alone is shown", Checks.leasts(y, 3), "0 9 0");
        });
        Checks.holds("and of both parts together", () -> {
            for (int length : new int[] {4, 5, 6}) {
                TablePages x = Checks.content(1, 2);
                Checks.figure(x, 0, 0, 1234, 2);
                Checks.words(x, 1, 0, length);
                Checks.due("a word of " + length + " and 12.34", x.least(0), Math.max(5, length));
            }
        });
        Checks.holds("the most width likewise", () -> {
            TablePages x = Checks.content(1, 3);
            Checks.words(x, 0, 0, 2, 2);
            Checks.words(x, 1, 0, 1, 1, 1);
            Checks.due("5 of 5 and 5", x.most(0), 5);
            Checks.figure(x, 2, 0, 1234, 2);
            Checks.due("5 of 5 and 12.34", x.most(0), 5);
            x.figure(2, 123456, 2);
            Checks.due("7 of 5 and 1234.56", x.most(0), 7);
            TablePages y = Checks.content(2, 2);
            Checks.figure(y, 0, 0, -1000000, 2);
            Checks.wide(y, 1, 0, 2, 4, 5);
            Checks.due("10 over -10000.00 and nothing", Checks.mosts(y, 2), "9 0");
            y.word(1, 1, 0);
            Checks.due("12 over them", Checks.mosts(y, 2), "9 2");
        });
    }

    private static void severalColumns() {
        Checks.holds("as long as the least width of the cell is greater than the least widths of its columns and 1 between "
            + "each two together", () -> {
            for (int length = 9; length <= 12; length++) {
                TablePages x = Checks.content(2, 2);
                Checks.words(x, 0, 0, 5);
                Checks.words(x, 0, 1, 4);
                Checks.wide(x, 1, 0, 2, length);
                String due = length <= 10 ? "5 4" : length == 11 ? "5 5" : "6 5";
                Checks.due(length + " over 5 and 4", Checks.leasts(x, 2), due);
            }
            TablePages y = Checks.content(3, 2);
            for (int i = 0; i < 3; i++) Checks.words(y, 0, i, 4);
            int c = Checks.wide(y, 1, 0, 3, 14);
            Checks.due("14 over 4, 4 and 4", Checks.leasts(y, 3), "4 4 4");
            y.word(c, 15, 0);
            Checks.due("15 over 4, 4 and 4", Checks.leasts(y, 3), "5 4 4");
            TablePages six = Checks.content(6, 1);
            int all = Checks.wide(six, 0, 0, 6, 5);
            Checks.due("5 over six, with 5 between", Checks.leasts(six, 6), "0 0 0 0 0 0");
            six.word(all, 6, 0);
            Checks.due("6 over six", Checks.leasts(six, 6), "1 0 0 0 0 0");
            six.word(all, 20, 0);
            Checks.due("20 over six", Checks.leasts(six, 6), "3 3 3 2 2 2");
        });
        Checks.holds("Then cells that show several columns are gone through, those that show fewer first", () -> {
            TablePages x = Checks.content(4, 2);
            Checks.wide(x, 0, 0, 3, 20);
            Checks.wide(x, 1, 1, 3, 15);
            x.hide(3);
            Checks.due("the second spans 3, but shows 2", Checks.leasts(x, 4), "4 7 7 0");
            x.hide(3);
            Checks.due("both show 3, the lower number goes first", Checks.leasts(x, 4), "6 6 6 1");
        });
        Checks.holds("of as many the lower number first", () -> {
            TablePages x = Checks.content(3, 2);
            Checks.wide(x, 1, 1, 2, 20);
            Checks.wide(x, 0, 0, 2, 11);
            Checks.due("20 over columns 1 and 2 first", Checks.leasts(x, 3), "0 10 9");
            TablePages y = Checks.content(3, 2);
            Checks.wide(y, 0, 0, 2, 11);
            Checks.wide(y, 1, 1, 2, 20);
            Checks.due("11 over columns 0 and 1 first", Checks.leasts(y, 3), "5 10 9");
        });
        Checks.holds("the column of these that is not fixed and has the least least width, of several the lowest, gets 1 "
            + "more", () -> {
            TablePages x = Checks.columns(0, 1, 1, 1, 2, 1, 0, 1);
            Checks.body(x, 2);
            Checks.words(x, 0, 0, 3);
            Checks.words(x, 0, 2, 2);
            Checks.words(x, 0, 3, 2);
            int c = Checks.wide(x, 1, 0, 4, 10);
            Checks.due("10 are there", Checks.leasts(x, 4), "3 0 2 2");
            String[] due = {"3 0 3 2", "3 0 3 3", "4 0 3 3", "4 0 4 3", "4 0 4 4"};
            for (int length = 11; length <= 15; length++) {
                x.empty(c);
                x.word(c, length, 0);
                Checks.due(length + " are needed", Checks.leasts(x, 4), due[length - 11]);
            }
        });
        Checks.holds("if all are fixed, the last one", () -> {
            TablePages x = Checks.columns(1, 9, 1, 1, 1, 20);
            Checks.body(x, 1);
            Checks.wide(x, 0, 0, 3, 12);
            Checks.due("the last of 3", Checks.leasts(x, 3), "0 0 10");
            x.hide(2);
            Checks.due("the last that is shown", Checks.leasts(x, 3), "0 11 0");
        });
        Checks.holds("Then the most widths are done in the same way, all cells once more", () -> {
            TablePages x = Checks.content(2, 2);
            Checks.words(x, 0, 0, 5);
            Checks.words(x, 0, 1, 2, 2, 2, 2);
            Checks.wide(x, 1, 0, 2, 10, 10);
            Checks.due("10 over 5 and 2", Checks.leasts(x, 2), "5 4");
            Checks.due("21 over 5 and 11", Checks.mosts(x, 2), "9 11");
            TablePages y = Checks.columns(1, 1, 0, 1, 1, 1);
            Checks.body(y, 2);
            Checks.wide(y, 0, 0, 2, 5, 5);
            int c = Checks.wide(y, 1, 0, 3, 5, 5, 5);
            Checks.due("not the fixed one", Checks.mosts(y, 3), "0 15 0");
            y.empty(c);
            Checks.due("11 over two", Checks.mosts(y, 3), "0 10 0");
            y.hide(1);
            y.word(c, 20, 0);
            Checks.due("all fixed: 8 to the last, but its least is 14", Checks.mosts(y, 3), "11 0 14");
        });
        Checks.holds("Then a most width below the least width becomes that", () -> {
            TablePages x = Checks.content(2, 2);
            Checks.words(x, 0, 0, 2, 2, 2, 2);
            Checks.words(x, 0, 1, 5);
            Checks.wide(x, 1, 0, 2, 20);
            Checks.due("20 over 2 and 5", Checks.leasts(x, 2), "10 9");
            Checks.due("20 over 11 and 5 gives 8, below 9", Checks.mosts(x, 2), "11 9");
            TablePages y = Checks.content(2, 2);
            Checks.words(y, 0, 0, 5);
            Checks.words(y, 0, 1, 2, 2, 2, 2);
            Checks.wide(y, 1, 0, 2, 20);
            Checks.due("20 over 5 and 2", Checks.leasts(y, 2), "10 9");
            Checks.due("20 over 5 and 11 gives 8, below 10", Checks.mosts(y, 2), "10 11");
        });
    }

    // ---- widths

    private static void fixedAndShares() {
        Checks.holds("The table has a width to be kept, 60 at first", () -> {
            TablePages x = Checks.columns(1, 60);
            Checks.due("60", x.over(), 0);
            TablePages y = Checks.columns(1, 59, 1, 1);
            Checks.due("61", y.over(), 1);
            Checks.due("50 of 60 hundredths", Checks.columns(2, 50).width(0), 30);
        });
        Checks.holds("between columns is 1", () -> {
            TablePages x = Checks.columns(1, 10, 1, 10, 1, 10);
            for (int[] d : new int[][] {{31, 1}, {32, 0}, {33, 0}}) {
                x.setPaper(d[0], 30);
                Checks.due("32 of " + d[0], x.over(), d[1]);
            }
            x.hide(1);
            x.setPaper(20, 30);
            Checks.due("hidden ones have no between: 21 of 20", x.over(), 1);
            Checks.due("one column has none", Checks.columns(1, 60).over(), 0);
        });
        Checks.holds("A fixed column has its width", () -> {
            Checks.due("1 and 60", Checks.widths(Checks.columns(1, 1, 1, 60), 2), "1 60");
            TablePages x = Checks.columns(1, 10);
            x.setPaper(1, 30);
            Checks.due("whatever is to be kept", x.width(0), 10);
        });
        Checks.holds("a share its percentage of the width to be kept less what is between columns, divided by 100, rounded "
            + "down", () -> {
            TablePages x = Checks.columns(2, 1, 2, 60);
            Checks.due("1 and 60 of 59", Checks.widths(x, 2), "0 35");
            x.setPaper(100, 30);
            Checks.due("of 99", Checks.widths(x, 2), "0 59");
            x.setPaper(101, 30);
            Checks.due("of 100", Checks.widths(x, 2), "1 60");
            x.setPaper(150, 30);
            Checks.due("of 149", Checks.widths(x, 2), "1 89");
            x.hide(0);
            Checks.due("of 150", Checks.widths(x, 2), "0 90");
            TablePages y = Checks.columns(2, 50, 1, 1, 1, 1, 1, 1, 1, 1, 1, 1);
            y.setPaper(5, 30);
            Checks.due("of 0", y.width(0), 0);
            y.setPaper(1, 30);
            Checks.due("of less than 0", y.width(0), 0);
            Checks.due("it does not take from what the table is over", y.over(), 5 + 5 - 1);
        });
        Checks.holds("both at least their least width", () -> {
            for (int length = 9; length <= 11; length++) {
                TablePages x = Checks.columns(1, 10, 2, 20);
                x.setPaper(51, 30);
                Checks.body(x, 1);
                Checks.words(x, 0, 0, length);
                Checks.words(x, 0, 1, length);
                int due = Math.max(10, length);
                Checks.due("10 and a least width of " + length, Checks.widths(x, 2), due + " " + due);
            }
        });
        Checks.holds("Columns of content have their least widths", () -> {
            TablePages x = Checks.content(1, 1);
            Checks.words(x, 0, 0, 5, 5);
            x.setPaper(5, 30);
            Checks.due("nothing is left", x.width(0), 5);
            x.setPaper(4, 30);
            Checks.due("over", x.width(0), 5);
            Checks.due("value counts for nothing", Checks.columns(0, 60).width(0), 0);
        });
    }

    /** Columns of content with words of 3, so many in each, on a paper of what is least and a rest. */
    private static TablePages lacking(int rest, int... words) {
        TablePages x = Checks.content(words.length, 1);
        int least = words.length - 1;
        for (int i = 0; i < words.length; i++) {
            int c = x.cell(0, i, 1, 1);
            for (int j = 0; j < words[i]; j++) x.word(c, 3, 0);
            least += 3;
        }
        x.setPaper(least + rest, 30);
        return x;
    }

    private static void rest() {
        Checks.holds("What is left of the width to be kept is the rest", () -> {
            TablePages x = Checks.columns(1, 10, 2, 10, 0, 1);
            Checks.body(x, 1);
            Checks.words(x, 0, 2, 3, 3, 3);
            x.setPaper(22, 30);
            Checks.due("22 less 2 between, 10, 2 and 3: 5", Checks.widths(x, 3), "10 2 8");
        });
        Checks.holds("If it is above 0", () -> {
            Checks.due("1", Checks.widths(lacking(1, 2), 1), "4");
            Checks.due("0", Checks.widths(lacking(0, 2), 1), "3");
            Checks.due("-1", Checks.widths(lacking(-1, 2), 1), "3");
            Checks.due("over then", lacking(-1, 2).over(), 1);
        });
        Checks.holds("and the columns of content could take it or more to have their most widths", () -> {
            Checks.due("3 of 4", Checks.widths(lacking(3, 2), 1), "6");
            Checks.due("4 of 4", Checks.widths(lacking(4, 2), 1), "7");
            Checks.due("5 of 4", Checks.widths(lacking(5, 2), 1), "7");
            Checks.due("12 of 4 and 8", Checks.widths(lacking(12, 2, 3), 2), "7 11");
            Checks.due("11 of 4 and 8", Checks.widths(lacking(11, 2, 3), 2), "7 10");
            TablePages x = Checks.content(1, 1);
            x.word(x.cell(0, 0, 1, 1), 3, 1);
            x.setPaper(3, 30);
            Checks.due("1 of 1", x.width(0), 3);
        });
        Checks.holds("each gets the rest times what it lacks of its most width, divided by what all lack together, rounded "
            + "down", () -> {
            Checks.due("6 of 4 and 8", Checks.widths(lacking(6, 2, 3), 2), "5 7");
            Checks.due("7 of 4 and 8: 2 1/3 and 4 2/3, and 1", Checks.widths(lacking(7, 2, 3), 2), "6 7");
            Checks.due("8 of 4 and 8: 2 2/3 and 5 1/3, and 1", Checks.widths(lacking(8, 2, 3), 2), "6 8");
            Checks.due("2 of 4, 4 and 8: 1/2, 1/2 and 1, and 1", Checks.widths(lacking(2, 2, 2, 3), 3), "4 3 4");
            TablePages x = Checks.columns(0, 1, 0, 1, 0, 1, 1, 5, 2, 20, 0, 1);
            Checks.body(x, 2);
            Checks.words(x, 0, 0, 3, 3);
            Checks.words(x, 0, 1, 3, 3);
            Checks.words(x, 0, 2, 3, 3, 3);
            Checks.words(x, 0, 5, 20, 20, 20);
            x.hide(5);
            x.setPaper(24, 30);
            Checks.due("fixed ones, shares and hidden ones lack nothing", Checks.widths(x, 6), "4 3 4 5 4 0");
        });
        Checks.holds("and what is left of the rest goes to the first of them that still lack something, 1 to each", () -> {
            Checks.due("the first lacks nothing", Checks.widths(lacking(1, 1, 2, 2), 3), "3 4 3");
            Checks.due("2 to 4, 4 and 4", Checks.widths(lacking(2, 2, 2, 2), 3), "4 4 3");
            Checks.due("2 to 0, 4, 0, 4 and 4", Checks.widths(lacking(2, 1, 2, 1, 2, 2), 5), "3 4 3 4 3");
            Checks.due("5 to six that lack 4", Checks.widths(lacking(5, 2, 2, 2, 2, 2, 2), 6), "4 4 4 4 4 3");
        });
        Checks.holds("if they could take less, each has its most width", () -> {
            Checks.due("13 to 4 and 8", Checks.widths(lacking(13, 2, 3), 2), "7 11");
            Checks.due("1 to 0 and 0", Checks.widths(lacking(1, 1, 1), 2), "3 3");
            TablePages x = Checks.columns(1, 10, 2, 10);
            Checks.due("none of content", Checks.widths(x, 2), "10 5");
        });
        Checks.holds("The table is over by how much all widths and what is between are more than the width to be kept, at "
            + "least 0", () -> {
            Checks.due("by 1", lacking(-1, 1, 1).over(), 1);
            Checks.due("by 0", lacking(0, 1, 1).over(), 0);
            Checks.due("less", lacking(1, 1, 1).over(), 0);
            Checks.due("without columns", new TablePages().over(), 0);
            TablePages x = Checks.columns(1, 60, 1, 60, 1, 60, 1, 60, 1, 60, 1, 60);
            x.setPaper(150, 1);
            Checks.due("365 of 150", x.over(), 215);
            x.hide(0);
            Checks.due("304 of 150", x.over(), 154);
        });
        Checks.holds("A cell is as wide as its columns and what is between them", () -> {
            int[][] due = {{11, 1}, {10, 2}};
            for (int[] d : due) {
                TablePages x = Checks.columns(1, 5, 1, d[0] - 6, 1, 5);
                Checks.body(x, 1);
                int c = Checks.wide(x, 0, 0, 2, 5, 5);
                Checks.due("two of 5 in " + d[0], x.lines(c), d[1]);
            }
            TablePages y = Checks.columns(1, 5, 1, 5, 1, 5);
            Checks.body(y, 1);
            int c = Checks.wide(y, 0, 0, 3, 5, 5, 5);
            y.hide(1);
            Checks.due("11 without the hidden one", y.lines(c), 2);
        });
    }

    // ---- heights

    /** The lines of a cell with these words, each with its cut, in a column of this width. */
    private static int lines(int width, int... lengthsAndCuts) {
        TablePages x = Checks.columns(1, width);
        Checks.body(x, 1);
        int c = x.cell(0, 0, 1, 1);
        for (int i = 0; i < lengthsAndCuts.length; i += 2) x.word(c, lengthsAndCuts[i], lengthsAndCuts[i + 1]);
        Checks.due("the column's width", x.width(0), width);
        return x.lines(c);
    }

    private static void linesOfWords() {
        Checks.holds("a word is put behind what is in the line, with 1 between if there is something, if it fits into the "
            + "width", () -> {
            Checks.due("5 in 5", lines(5, 5, 0), 1);
            Checks.due("5 + 1 + 4 in 10", lines(10, 5, 0, 4, 0), 1);
            Checks.due("5 + 1 + 5 in 10", lines(10, 5, 0, 5, 0), 2);
            Checks.due("3 + 1 + 3 + 1 + 2 in 10", lines(10, 3, 0, 3, 0, 2, 0), 1);
            Checks.due("3 + 1 + 3 + 1 + 3 in 10", lines(10, 3, 0, 3, 0, 3, 0), 2);
            Checks.due("a word with a cut that fits is not cut", lines(10, 5, 0, 4, 2, 10, 0), 2);
        });
        Checks.holds("else, if it has a cut, and what is ahead of that with 1 more fits so, that is put", () -> {
            Checks.due("4 + 1 + 4 and 1 in 10, then 5 and 4", lines(10, 4, 0, 9, 4, 4, 0), 2);
            Checks.due("4 + 1 + 5 and 1 do not go into 10: 9, then 4", lines(10, 4, 0, 9, 5, 4, 0), 3);
            Checks.due("2 and 1 in an empty line of 4, 4 in the next", lines(4, 6, 2), 2);
            Checks.due("4 + 1 + 1 and 1 in 7, then 4 and 2", lines(7, 4, 0, 5, 1, 2, 0), 2);
            Checks.due("4 + 1 + 1 and 1 do not go into 6: 5, then 2", lines(6, 4, 0, 5, 1, 2, 0), 3);
            Checks.due("4 + 1 + 4 and 1 in 10, then 1 and 8", lines(10, 4, 0, 7, 4, 6, 0), 2);
        });
        Checks.holds("and the rest of the word, which has no cut any more, comes first in the next line", () -> {
            Checks.due("rest 5 and 4 in 10", lines(10, 4, 0, 9, 4, 4, 0), 2);
            Checks.due("rest 5 and 5 in 10", lines(10, 4, 0, 9, 4, 5, 0), 3);
            Checks.due("rest 1 of 20", lines(20, 20, 19, 18, 0), 2);
            Checks.due("rest 10 of 20 in 11, then 1 does not go in", lines(11, 20, 10, 1, 0), 3);
            Checks.due("rest 9 of 20 in 12, then 2", lines(12, 20, 11, 2, 0), 2);
        });
        Checks.holds("else the line ends, if there is something in it, and the word is put into the next one likewise", () -> {
            Checks.due("5, then 20 is cut in the next line", lines(11, 5, 0, 20, 10), 3);
            Checks.due("5, then 11 is whole in the next", lines(11, 5, 0, 11, 10), 2);
            Checks.due("a first word makes no empty line", lines(11, 11, 0, 11, 0), 2);
            Checks.due("24 lines of 12 words", lines(9, 16, 8, 16, 8, 16, 8, 16, 8, 16, 8, 16, 8, 16, 8, 16, 8, 16, 8,
                16, 8, 16, 8, 16, 8), 24);
        });
        Checks.holds("a word that does not fit into an empty line stands in it all the same", () -> {
            // Widths are never less than the least ones, so a word is just as wide as the line at the worst.
            Checks.due("20 in 20", lines(20, 20, 0), 1);
            Checks.due("20 and 20 in 20", lines(20, 20, 0, 20, 0), 2);
            TablePages x = Checks.content(1, 1);
            int c = Checks.words(x, 0, 0, 20, 20);
            x.setPaper(1, 30);
            Checks.due("20 and 20 on a paper of 1", x.lines(c), 2);
        });
        Checks.holds("A cell with a figure has 1 line, others 0", () -> {
            TablePages x = Checks.content(2, 2);
            Checks.due("a figure", x.lines(Checks.figure(x, 0, 0, -1000000, 2)), 1);
            Checks.due("nothing", x.lines(x.cell(0, 1, 1, 1)), 0);
            Checks.due("nothing over two columns", x.lines(x.cell(1, 0, 1, 2)), 0);
            x.empty(0);
            Checks.due("emptied", x.lines(0), 0);
        });
    }

    private static void heightsOfRows() {
        Checks.holds("The height of a row is the greatest number of lines of the cells that span it alone", () -> {
            for (int part = 0; part < 3; part++) {
                TablePages x = Checks.columns(1, 9, 1, 9, 1, 9);
                x.row(part, 0, false);
                Checks.tall(x, 0, 0, 1, 2);
                Checks.due("2", Checks.heights(x, 1), "2");
                int c = Checks.tall(x, 0, 1, 1, 3);
                Checks.tall(x, 0, 2, 1, 2);
                Checks.due("3 of 2, 3 and 2", Checks.heights(x, 1), "3");
                x.empty(c);
                Checks.due("2 again", Checks.heights(x, 1), "2");
            }
            TablePages y = Checks.columns(1, 4, 1, 4);
            Checks.body(y, 1);
            Checks.wide(y, 0, 0, 2, 9, 9, 9, 9);
            Checks.due("of a cell over two columns", Checks.heights(y, 1), "4");
            TablePages z = Checks.columns(1, 9);
            Checks.body(z, 1);
            int all = z.cell(0, 0, 1, 1);
            for (int i = 0; i < 12; i++) z.word(all, 16, 8);
            Checks.due("24 lines", Checks.heights(z, 1), "24");
        });
        Checks.holds("at least 1", () -> {
            TablePages x = Checks.content(2, 3);
            x.cell(0, 0, 1, 1);
            Checks.words(x, 1, 0, 5);
            Checks.due("of an empty cell, of one line, of no cell", Checks.heights(x, 3), "1 1 1");
        });
        Checks.holds("what its lines are more than the heights of its rows together, its last row gets", () -> {
            String[] due = {"2 1 1", "2 1 1", "2 1 1", "2 1 1", "2 1 2", "2 1 3"};
            for (int lines = 1; lines <= 6; lines++) {
                TablePages x = Checks.columns(1, 9, 1, 9);
                Checks.body(x, 3);
                Checks.tall(x, 0, 1, 1, 2);
                Checks.tall(x, 0, 0, 3, lines);
                Checks.due(lines + " lines over 2, 1 and 1", Checks.heights(x, 3), due[lines - 1]);
            }
            TablePages y = Checks.columns(1, 9);
            Checks.body(y, 4);
            Checks.tall(y, 0, 0, 4, 12);
            Checks.due("12 lines over 4 rows", Checks.heights(y, 4), "1 1 1 9");
            TablePages z = Checks.columns(1, 9, 0, 1);
            Checks.body(z, 2);
            Checks.figure(z, 0, 1, 200, 0);
            Checks.figure(z, 1, 1, 100, 0);
            z.sort(1, false);
            Checks.tall(z, 1, 0, 2, 5);
            Checks.due("row 0 is the last of its rows as they stand", Checks.heights(z, 2), "4 1");
        });
        Checks.holds("its last row gets, in head and foot likewise", () -> {
            TablePages x = Checks.columns(1, 9);
            for (int part : new int[] {0, 2, 0, 2}) x.row(part, 0, false);
            Checks.tall(x, 0, 0, 2, 4);
            Checks.tall(x, 1, 0, 2, 3);
            Checks.due("head 0, foot 1, head 2, foot 3", Checks.heights(x, 4), "1 1 3 2");
        });
        Checks.holds("Then cells that span several rows are gone through, those that span fewer first", () -> {
            TablePages x = Checks.columns(1, 9, 1, 9);
            Checks.body(x, 3);
            Checks.tall(x, 0, 0, 3, 6);
            Checks.tall(x, 0, 1, 2, 5);
            Checks.due("5 over two first: 6 over three are there", Checks.heights(x, 3), "1 4 1");
            TablePages y = Checks.columns(1, 9, 1, 9);
            Checks.body(y, 4);
            Checks.tall(y, 0, 0, 4, 8);
            Checks.tall(y, 1, 1, 3, 7);
            Checks.due("7 over three first", Checks.heights(y, 4), "1 1 1 5");
            TablePages z = Checks.columns(1, 9, 1, 9);
            Checks.body(z, 4);
            Checks.tall(z, 0, 0, 4, 8);
            Checks.tall(z, 0, 1, 3, 7);
            Checks.due("7 over the first three first", Checks.heights(z, 4), "1 1 5 1");
        });
        Checks.holds("those that span fewer first, of as many the lower number first", () -> {
            TablePages x = Checks.columns(1, 9, 1, 9);
            Checks.body(x, 3);
            Checks.tall(x, 1, 0, 2, 4);
            Checks.tall(x, 0, 1, 2, 3);
            Checks.due("4 over rows 1 and 2 first", Checks.heights(x, 3), "1 2 3");
            TablePages y = Checks.columns(1, 9, 1, 9);
            Checks.body(y, 3);
            Checks.tall(y, 0, 1, 2, 3);
            Checks.tall(y, 1, 0, 2, 4);
            Checks.due("3 over rows 0 and 1 first", Checks.heights(y, 3), "1 2 2");
        });
    }

    private static void heightOfTable() {
        Checks.holds("The height of the table is that of all its body rows together", () -> {
            Checks.due("without columns", new TablePages().tableHeight(), 0);
            Checks.due("without rows", Checks.content(1, 0).tableHeight(), 0);
            TablePages x = Checks.columns(1, 9);
            for (int part = 0; part < 3; part++) Checks.tall(x, x.row(part, 0, false), 0, 1, 2 + part);
            Checks.due("the body's 3 of 2, 3 and 4", x.tableHeight(), 3);
            Checks.tall(x, x.row(1, 0, false), 0, 1, 5);
            Checks.due("3 and 5", x.tableHeight(), 8);
            TablePages y = Checks.columns(1, 9);
            for (int i = 0; i < 24; i++) Checks.tall(y, y.row(1, 0, false), 0, 1, 12);
            Checks.due("24 rows of 12", y.tableHeight(), 288);
        });
    }

    /** One column of content with 12 words of this length, on this paper. */
    private static int leastHeight(int length, int paper) {
        TablePages x = Checks.content(1, 1);
        int c = x.cell(0, 0, 1, 1);
        for (int i = 0; i < 12; i++) x.word(c, length, 0);
        x.setPaper(paper, 30);
        return x.leastHeight();
    }

    private static void leastHeights() {
        Checks.holds("if the columns of content may have any widths from their least to their most ones", () -> {
            TablePages x = Checks.content(2, 2);
            Checks.words(x, 0, 0, 3, 3);
            Checks.wide(x, 1, 0, 2, 3, 3, 3);
            Checks.due("7 and 3 are the most ones: 1 + 1", x.leastHeight(), 2);
            TablePages y = Checks.content(2, 2);
            y.word(y.cell(0, 0, 1, 1), 3, 1);
            int c = y.cell(1, 0, 1, 2);
            y.word(c, 3, 1);
            y.word(c, 3, 1);
            y.word(c, 3, 1);
            y.word(y.cell(0, 1, 1, 1), 2, 1);
            Checks.due("most ones", Checks.mosts(y, 2), "5 5");
            Checks.due("3 + 1 + 3 + 1 + 3 in 11", y.leastHeight(), 2);
            TablePages z = Checks.content(1, 1);
            z.word(z.cell(0, 0, 1, 1), 5, 1);
            Checks.due("no more than the most one is of use", z.leastHeight(), 1);
            TablePages m = Checks.content(2, 2);
            m.word(m.cell(0, 0, 1, 1), 3, 1);
            int long20 = m.cell(0, 1, 1, 1), over = m.cell(1, 0, 1, 2);
            for (int i = 0; i < 12; i++) m.word(long20, 20, 0);
            for (int i = 0; i < 12; i++) m.word(over, 5, 0);
            Checks.due("3 is the most one of column 0, so 5 of 5 are in 3 and 1 and 28", m.leastHeight(), 15);
        });
        Checks.holds("but no more than 8 above the least", () -> {
            Checks.due("9: 5 words of 1 in a line, 12 in 3", leastHeight(1, 60), 3);
            Checks.due("10: 3 words of 2 in a line, 12 in 4", leastHeight(2, 60), 4);
            Checks.due("11: 3 words of 3", leastHeight(3, 60), 4);
            Checks.due("15: 2 words of 7", leastHeight(7, 60), 6);
            Checks.due("16: 1 word of 8", leastHeight(8, 60), 12);
            TablePages x = Checks.columns(0, 1, 0, 1, 0, 1, 1, 9);
            Checks.body(x, 2);
            Checks.wide(x, 0, 0, 3, 5, 5, 5, 5, 5, 5, 5, 5, 5, 5);
            Checks.tall(x, 1, 3, 1, 5);
            Checks.due("three columns 9, 9 and 9: 5 of 5 in 29, and 5 lines", x.leastHeight(), 7);
            x.setPaper(38, 30);
            Checks.due("28 of 29: 4 of 5, and 5 lines", x.leastHeight(), 8);
            TablePages y = Checks.columns(0, 1, 0, 1, 0, 1, 1, 9);
            Checks.body(y, 2);
            Checks.wide(y, 0, 0, 3, 5, 5, 5, 5, 5, 6, 5, 5, 5);
            Checks.tall(y, 1, 3, 1, 5);
            y.setPaper(39, 30);
            Checks.due("23 above 6 together: 2 and 5 lines", y.leastHeight(), 7);
            y.setPaper(38, 30);
            Checks.due("22 above 6 together: 3 and 5 lines", y.leastHeight(), 8);
        });
        Checks.holds("such that the table is not over", () -> {
            Checks.due("15 on 15", leastHeight(7, 15), 6);
            Checks.due("14 on 14", leastHeight(7, 14), 12);
            TablePages x = Checks.columns(0, 1, 1, 10);
            Checks.body(x, 1);
            Checks.words(x, 0, 0, 4, 4);
            x.setPaper(20, 30);
            Checks.due("9 and 1 and 10 on 20", x.leastHeight(), 1);
            x.setPaper(19, 30);
            Checks.due("on 19", x.leastHeight(), 2);
        });
        Checks.holds("if it is over with the least ones, these are the only ones", () -> {
            Checks.due("7 on 7", leastHeight(7, 7), 12);
            Checks.due("7 on 6", leastHeight(7, 6), 12);
            Checks.due("1 on 1", leastHeight(1, 1), 12);
            TablePages x = Checks.columns(1, 60, 0, 1);
            Checks.body(x, 1);
            Checks.words(x, 0, 1, 4, 4);
            Checks.due("60 and 1 and 4 on 60", x.leastHeight(), 2);
        });
        Checks.holds("The least height is that which the table can have", () -> {
            TablePages x = Checks.content(2, 2);
            x.setPaper(16, 30);
            Checks.words(x, 0, 0, 3, 3, 3);
            Checks.words(x, 1, 1, 6, 1, 6, 1, 6);
            Checks.due("as it is", x.tableHeight(), 6);
            Checks.due("at its best: 7 and 8", x.leastHeight(), 5);
            Checks.due("as it is still", x.tableHeight(), 6);
            x.setPaper(15, 30);
            Checks.due("7 and 8 are over by 1", x.leastHeight(), 6);
        });
        Checks.holds("The height of the table, the least one too, is of body rows", () -> {
            TablePages x = Checks.content(1, 0);
            Checks.words(x, x.row(0, 0, false), 0, 5, 5, 5, 5, 5, 5);
            Checks.due("a head alone", x.leastHeight(), 0);
            Checks.words(x, x.row(1, 0, false), 0, 5);
            Checks.due("and a row", x.leastHeight(), 1);
        });
    }

    // ---- borders

    private static void borders() {
        Checks.holds("Each cell has a border at its top, right, bottom and left, of a weight 0 to 5, 0 at first", () -> {
            int[][] beside = {{0, 1}, {1, 2}, {2, 1}, {1, 0}};
            for (int side = 0; side < 4; side++) {
                TablePages x = Checks.content(3, 3);
                x.cell(1, 1, 1, 1);
                Checks.due("at first", x.border(0, 0, side, 5), 0);
                for (int other = 0; other < 4; other++) {
                    Checks.due("side " + other, x.edge(1, 1, other), other == side ? 51 : 0);
                    int opposite = (other + 2) % 4;
                    Checks.due("from beside", x.edge(beside[other][0], beside[other][1], opposite), other == side ? 51 : 0);
                }
            }
        });
        Checks.holds("so has each row at its top and bottom", () -> {
            for (int side = 0; side < 4; side += 2) {
                TablePages x = Checks.content(2, 3);
                Checks.due("at first", x.border(1, 1, side, 5), 0);
                for (int column = 0; column < 2; column++) {
                    for (int other = 0; other < 4; other++) {
                        Checks.due("side " + other, x.edge(1, column, other), other == side ? 52 : 0);
                    }
                    Checks.due("from above", x.edge(0, column, 2), side == 0 ? 52 : 0);
                    Checks.due("from below", x.edge(2, column, 0), side == 2 ? 52 : 0);
                }
            }
        });
        Checks.holds("each column at its left and right", () -> {
            for (int side = 1; side < 4; side += 2) {
                TablePages x = Checks.content(3, 2);
                Checks.due("at first", x.border(2, 1, side, 5), 0);
                for (int row = 0; row < 2; row++) {
                    for (int other = 0; other < 4; other++) {
                        Checks.due("side " + other, x.edge(row, 1, other), other == side ? 53 : 0);
                    }
                    Checks.due("from the left", x.edge(row, 0, 1), side == 3 ? 53 : 0);
                    Checks.due("from the right", x.edge(row, 2, 3), side == 1 ? 53 : 0);
                }
            }
        });
        Checks.holds("and the whole table all around", () -> {
            TablePages x = Checks.content(2, 0);
            for (int part = 0; part < 3; part++) x.row(part, 0, false);
            Checks.due("at first", x.border(3, 0, 0, 5), 0);
            for (int row = 0; row < 3; row++) {
                Checks.due("left", x.edge(row, 0, 3), 54);
                Checks.due("right", x.edge(row, 1, 1), 54);
                Checks.due("within", x.edge(row, 0, 1) + x.edge(row, 1, 3), 0);
                Checks.due("top", x.edge(row, 0, 0), row == 0 ? 54 : 0);
                Checks.due("bottom", x.edge(row, 1, 2), row == 2 ? 54 : 0);
            }
        });
    }

    private static void neighbours() {
        Checks.holds("An edge of a place is between it and the next place in the head, body and foot one below the other", () -> {
            TablePages x = Checks.content(1, 0);
            int foot = x.row(2, 0, false), head = x.row(0, 0, false);
            x.border(1, foot, 0, 3);
            Checks.due("without a body the foot is below the head", x.edge(head, 0, 2), 32);
            int body = x.row(1, 0, false);
            Checks.due("with a body it is not", x.edge(head, 0, 2), 0);
            Checks.due("but below the body", x.edge(body, 0, 2), 32);
        });
        Checks.holds("and the columns side by side", () -> {
            TablePages x = Checks.content(4, 1);
            x.border(2, 3, 3, 4);
            Checks.due("columns 2 and 3", x.edge(0, 2, 1), 43);
            x.hide(2);
            Checks.due("columns 1 and 3", x.edge(0, 1, 1), 43);
            x.hide(1);
            Checks.due("columns 0 and 3", x.edge(0, 0, 1), 43);
            Checks.due("from column 3", x.edge(0, 3, 3), 43);
        });
        Checks.holds("and the columns side by side: what is hidden, and cells that are out, count for nothing", () -> {
            TablePages x = Checks.content(3, 1);
            for (int side = 1; side < 4; side += 2) x.border(2, 1, side, 5);
            x.cell(0, 1, 1, 1);
            for (int side = 0; side < 4; side++) x.border(0, 0, side, 5);
            Checks.due("shown", x.edge(0, 0, 1) + x.edge(0, 2, 3), 102);
            x.hide(1);
            Checks.due("hidden", x.edge(0, 0, 1) + x.edge(0, 2, 3), 0);
            x.hide(0);
            Checks.due("at the outside", x.edge(0, 2, 3), 0);
        });
        Checks.holds("or at the outside", () -> {
            TablePages x = Checks.content(3, 1);
            x.border(3, 0, 0, 2);
            for (int side = 0; side < 4; side++) {
                boolean isOutside = side != 1;
                Checks.due("side " + side + " of column 0", x.edge(0, 0, side), isOutside ? 24 : 0);
            }
            x.hide(0);
            Checks.due("the left of column 1", x.edge(0, 1, 3), 24);
            x.hide(2);
            Checks.due("the right of column 1", x.edge(0, 1, 1), 24);
            TablePages y = Checks.content(1, 0);
            y.border(3, 0, 0, 2);
            y.row(2, 0, false);
            Checks.due("the foot alone: its top", y.edge(0, 0, 0), 24);
            y.row(1, 0, false);
            Checks.due("the body above it", y.edge(0, 0, 0), 0);
            Checks.due("the body's top", y.edge(1, 0, 0), 24);
            Checks.due("the foot's bottom", y.edge(0, 0, 2), 24);
        });
        Checks.holds("An edge within a cell has the weight 0, and nobody", () -> {
            TablePages x = Checks.content(3, 2);
            x.cell(0, 0, 2, 3);
            for (int side = 0; side < 4; side++) {
                x.border(0, 0, side, 5);
                for (int i = 0; i < 2; i++) x.border(1, i, side / 2 * 2, 5);
                for (int i = 0; i < 3; i++) x.border(2, i, side / 2 * 2 + 1, 5);
            }
            Checks.due("below", x.edge(0, 1, 2), 0);
            Checks.due("above", x.edge(1, 1, 0), 0);
            Checks.due("right", x.edge(0, 1, 1), 0);
            Checks.due("left", x.edge(0, 1, 3), 0);
            x.hide(1);
            Checks.due("over a hidden column", x.edge(0, 0, 1), 0);
            Checks.due("at its side", x.edge(0, 2, 1), 51);
        });
        Checks.holds("An edge within a cell: two places without one are not within one", () -> {
            TablePages x = Checks.content(2, 2);
            x.border(1, 0, 2, 3);
            x.border(2, 0, 1, 4);
            Checks.due("below", x.edge(0, 0, 2), 32);
            Checks.due("right", x.edge(0, 0, 1), 43);
        });
    }

    private static void winners() {
        Checks.holds("Otherwise the greatest weight wins of those of the cells at both sides, at this edge", () -> {
            for (int below = 2; below <= 4; below++) {
                TablePages x = Checks.content(2, 2);
                x.cell(0, 0, 1, 1);
                x.cell(1, 0, 1, 1);
                x.border(0, 0, 2, 3);
                x.border(0, 1, 0, below);
                Checks.due("3 above, " + below + " below", x.edge(0, 0, 2), 10 * Math.max(3, below) + 1);
                Checks.due("the same from below", x.edge(1, 0, 0), 10 * Math.max(3, below) + 1);
            }
            TablePages y = Checks.content(2, 1);
            y.cell(0, 0, 1, 1);
            y.cell(0, 1, 1, 1);
            y.border(0, 0, 1, 3);
            y.border(0, 1, 3, 4);
            y.border(0, 0, 3, 5);
            y.border(0, 1, 1, 5);
            Checks.due("3 at the left, 4 at the right", y.edge(0, 0, 1), 41);
        });
        Checks.holds("of the rows at both sides, if it is a top or bottom", () -> {
            TablePages x = Checks.content(1, 2);
            x.border(1, 0, 2, 2);
            x.border(1, 1, 0, 3);
            Checks.due("2 and 3", x.edge(0, 0, 2), 32);
            x.border(1, 0, 2, 4);
            Checks.due("4 and 3", x.edge(1, 0, 0), 42);
            Checks.due("not at a left or right", x.edge(0, 0, 1) + x.edge(0, 0, 3), 0);
        });
        Checks.holds("of the columns at both sides, if it is a left or right", () -> {
            TablePages x = Checks.content(2, 1);
            x.border(2, 0, 1, 2);
            x.border(2, 1, 3, 3);
            Checks.due("2 and 3", x.edge(0, 0, 1), 33);
            x.border(2, 0, 1, 4);
            Checks.due("4 and 3", x.edge(0, 1, 3), 43);
            Checks.due("not at a top or bottom", x.edge(0, 0, 0) + x.edge(0, 0, 2), 0);
        });
        Checks.holds("and of the table, if it is at the outside", () -> {
            TablePages x = Checks.content(2, 2);
            x.border(3, 0, 0, 5);
            Checks.due("inside", x.edge(0, 0, 1) + x.edge(0, 0, 2) + x.edge(1, 1, 0) + x.edge(1, 1, 3), 0);
            Checks.due("outside", x.edge(0, 0, 0) + x.edge(0, 0, 3) + x.edge(1, 1, 1) + x.edge(1, 1, 2), 4 * 54);
        });
        Checks.holds("of the same weight that of a cell, then of a row, then of a column, then of the table", () -> {
            for (int weight = 1; weight <= 5; weight++) {
                TablePages x = Checks.content(1, 1);
                x.cell(0, 0, 1, 1);
                x.border(3, 0, 0, weight);
                Checks.due("the table", x.edge(0, 0, 0), 10 * weight + 4);
                x.border(1, 0, 0, weight);
                Checks.due("a row and the table", x.edge(0, 0, 0), 10 * weight + 2);
                x.border(2, 0, 3, weight);
                Checks.due("a column and the table", x.edge(0, 0, 3), 10 * weight + 3);
                x.border(0, 0, 0, weight);
                Checks.due("a cell, a row and the table", x.edge(0, 0, 0), 10 * weight + 1);
                x.border(0, 0, 3, weight);
                Checks.due("a cell, a column and the table", x.edge(0, 0, 3), 10 * weight + 1);
                if (weight > 1) {
                    x.border(0, 0, 0, weight - 1);
                    Checks.due("a row that is stronger than a cell", x.edge(0, 0, 0), 10 * weight + 2);
                    x.border(1, 0, 0, weight - 1);
                    Checks.due("the table that is stronger than both", x.edge(0, 0, 0), 10 * weight + 4);
                    x.border(0, 0, 3, weight - 1);
                    Checks.due("a column that is stronger than a cell", x.edge(0, 0, 3), 10 * weight + 3);
                    x.border(2, 0, 3, weight - 1);
                    Checks.due("the table that is stronger than both", x.edge(0, 0, 3), 10 * weight + 4);
                }
            }
        });
        Checks.holds("A weight of 0 is nobody's", () -> {
            TablePages x = Checks.content(1, 1);
            x.cell(0, 0, 1, 1);
            for (int side = 0; side < 4; side++) Checks.due("at first", x.edge(0, 0, side), 0);
            for (int side = 0; side < 4; side++) x.border(0, 0, side, 0);
            x.border(3, 0, 0, 0);
            for (int side = 0; side < 4; side++) Checks.due("set to 0", x.edge(0, 0, side), 0);
        });
    }

    // ---- pages

    private static void frames() {
        Checks.holds("A page has some lines, 30 at first", () -> {
            for (int lines = 6; lines <= 7; lines++) {
                TablePages x = Checks.columns(1, 9);
                Checks.body(x, 24);
                Checks.tall(x, 0, 0, 1, lines + 1);
                Checks.due("24 rows of " + (lines + 24), x.pages(), lines == 6 ? 1 : 2);
            }
        });
        Checks.holds("On each page stand the heads, and the feet", () -> {
            TablePages x = Checks.sheet(6, 1, 1, 1, 1, 1);
            Checks.tall(x, x.row(0, 0, false), 0, 1, 2);
            x.row(2, 0, false);
            Checks.due("2, 3 and 1; 2, 1, 2 and 1", Checks.used(x), "6 6");
            Checks.due("row 2 is on page 0", x.pageOf(2), 0);
            Checks.due("row 3 is on page 1", x.pageOf(3), 1);
        });
        Checks.holds("on each but the first one a line \"continued\"", () -> {
            Checks.due("3, 2 and 1 of 6 rows", Checks.used(Checks.sheet(3, 1, 1, 1, 1, 1, 1)), "3 3 2");
            Checks.due("one page has none", Checks.used(Checks.sheet(3, 1, 1, 1)), "3");
        });
        Checks.holds("and, if a column is totalled, a line that is carried in", () -> {
            TablePages x = Checks.sheet(5, 1, 1, 1, 1, 1, 1);
            x.totalled(1);
            Checks.due("4 rows and out; continued, in, 2 rows and the total", Checks.used(x), "5 5");
            Checks.due("row 4", x.pageOf(4), 1);
            x.row(1, 0, false);
            Checks.due("a page between has both", Checks.used(x), "5 5 4");
            Checks.due("2 rows are on it", x.linesOn(4, 1) + x.linesOn(5, 1) + x.linesOn(6, 1), 2);
            x.totalled(1);
            Checks.due("not totalled", Checks.used(x), "5 3");
        });
        Checks.holds("on each but the last one, if a column is totalled, a line that is carried out", () -> {
            TablePages x = Checks.sheet(5, 1, 1, 1, 1);
            x.totalled(1);
            Checks.due("4 rows and the total, nothing out", Checks.used(x), "5");
            x.row(1, 0, false);
            Checks.due("4 rows and out", Checks.used(x), "5 4");
        });
        Checks.holds("What is left is the room of a page", () -> {
            TablePages x = Checks.sheet(3, 1);
            x.row(0, 0, false);
            x.row(2, 0, false);
            Checks.due("room for 1", Checks.used(x), "3");
            x.setPaper(60, 2);
            Checks.refused(x, Checks.STATE, "room for 0", y -> y.pages());
            x.setPaper(60, 1);
            Checks.refused(x, Checks.STATE, "less than room for 0", y -> y.pages());
        });
    }

    /** Rows of these groups on one long page, with a totalled column. */
    private static TablePages grouped(int... groups) {
        TablePages x = Checks.content(1, 0);
        x.setPaper(60, 100);
        for (int group : groups) x.row(1, group, false);
        x.totalled(0);
        return x;
    }

    private static void items() {
        Checks.holds("The items that flow over the pages are the body rows, each with its height", () -> {
            TablePages x = Checks.sheet(30, 1, 2, 12, 5);
            Checks.due("20 lines", Checks.used(x), "20");
            Checks.due("row 2", Checks.spread(x, 2), "12");
            Checks.due("no rows, no lines", Checks.used(Checks.sheet(30)), "0");
        });
        Checks.holds("behind each last row of a run of rows of one group that is not 0 a subtotal of 1 line", () -> {
            int[][] groups = {{0}, {1}, {9}, {1, 1}, {1, 2}, {1, 2, 1}, {0, 0}, {1, 0, 1}, {1, 1, 0, 0, 2, 2}, {9, 9, 1}};
            int[] subtotals = {0, 1, 1, 1, 2, 3, 0, 2, 2, 2};
            for (int i = 0; i < groups.length; i++) {
                TablePages x = grouped(groups[i]);
                Checks.due("groups " + i, x.used(0), groups[i].length + subtotals[i] + 1);
                x.totalled(0);
                Checks.due("groups " + i + ", not totalled", x.used(0), groups[i].length);
            }
        });
        Checks.holds("a run of rows of one group, as they stand", () -> {
            TablePages x = grouped(1, 2, 1, 2);
            for (int i = 0; i < 4; i++) Checks.figure(x, i, 0, 100 << i, 0);
            Checks.due("four runs", x.used(0), 9);
            x.figure(1, 1000, 0);
            x.sort(0, false);
            Checks.due("1, 1, 2, 2: two runs", x.used(0), 7);
            Checks.due("row 0 ends none", x.subtotal(0, 0), 0);
            Checks.due("row 2 ends the first", x.subtotal(2, 0), 500);
            Checks.due("row 3 ends none", x.subtotal(3, 0), 0);
            Checks.due("row 1 ends the second", x.subtotal(1, 0), 1800);
        });
        Checks.holds("a subtotal stands behind its row", () -> {
            TablePages x = grouped(1, 2, 2);
            x.setPaper(60, 4);
            Checks.due("row, subtotal, row, and out; in", Checks.used(x), "4 4 4");
            Checks.due("row 1 is on page 0", x.pageOf(1), 0);
            Checks.due("row 2 is on page 1, and the subtotal behind it on page 2", x.pageOf(2), 1);
        });
        Checks.holds("and behind all a total of 1 line, also without rows", () -> {
            Checks.due("one row", grouped(0).used(0), 2);
            Checks.due("none", grouped().used(0), 1);
            TablePages x = grouped();
            x.row(0, 0, false);
            x.setPaper(60, 2);
            Checks.due("a head and the total", Checks.used(x), "2");
            x.setPaper(60, 1);
            Checks.refused(x, Checks.STATE, "a head, and no room for the total", y -> y.pages());
        });
        Checks.holds("and behind that, if notes stand at the end, and there are some, all of them as one item, with all their "
            + "lines", () -> {
            TablePages x = Checks.sheet(20, 1, 1, 1);
            x.notesAtEnd();
            int[] cells = new int[3];
            for (int i = 0; i < 3; i++) cells[i] = x.cell(i, 0, 1, 1);
            Checks.due("none", Checks.used(x), "3");
            x.totalled(1);
            x.setPaper(60, 4);
            Checks.due("without notes the total is the last item", Checks.used(x), "4");
            x.totalled(1);
            x.setPaper(60, 20);
            for (int i = 0; i < 3; i++) x.note(cells[i], i + 1);
            Checks.due("6 lines", Checks.used(x), "9");
            Checks.due("all of them notes", Checks.notes(x), "6");
            x.setPaper(60, 4);
            Checks.due("one item that breaks", Checks.notes(x), "1 3 2");
            x.totalled(1);
            Checks.due("behind the total", Checks.used(x), "4 4 4 4 4 4 4");
            Checks.due("with carried lines beside it", Checks.notes(x), "0 0 1 1 1 1 2");
            Checks.due("on their pages again", x.notesAtEnd(), false);
            Checks.refused(x, Checks.STATE, "a row and 3 lines of notes in a room of 2", y -> y.pages());
        });
        Checks.holds("each note needs its lines of the room of the page on which the first row that its cell spans begins", () -> {
            TablePages x = Checks.sheet(3, 1, 1, 1, 1);
            int c = x.cell(1, 1, 2, 1);
            Checks.due("without it", x.pageOf(2), 0);
            x.note(c, 1);
            Checks.due("rows 0 and 1 and 1 line; rows 2 and 3", Checks.used(x), "3 3");
            Checks.due("row 1 is on page 0", x.pageOf(1), 0);
            Checks.due("row 2 is on page 1", x.pageOf(2), 1);
            Checks.due("the note is on page 0", Checks.notes(x), "1 0");
            x.note(c, 2);
            Checks.refused(x, Checks.STATE, "neither 2 lines nor a room of 2 for 3", y -> y.pages());
            x.setPaper(60, 4);
            Checks.due("3 lines for 3", Checks.notes(x), "2 0");
            int other = x.cell(1, 0, 1, 1);
            x.note(other, 1);
            x.setPaper(60, 5);
            Checks.due("two notes of one row: 4 for 4", Checks.notes(x), "3 0");
            TablePages y = Checks.sheet(4, 1, 1, 1, 1, 1);
            y.note(y.cell(2, 1, 1, 1), 2);
            Checks.due("row 2 and 2 lines do not go into 2", Checks.notes(y), "0 2 0");
        });
    }

    private static void fitting() {
        Checks.holds("An item fits, if it and the notes that come with it are not more than what is left of the room", () -> {
            Checks.due("3 of 3", Checks.spread(Checks.sheet(5, 2, 3), 1), "3");
            Checks.due("4 of 3", Checks.spread(Checks.sheet(5, 2, 4), 1), "0 4");
            Checks.due("3 of 3, may break", Checks.spread(Checks.sheet(5, -2, -3), 1), "3");
            for (int note = 1; note <= 3; note++) {
                TablePages x = Checks.sheet(5, 2, 1, 1);
                x.note(x.cell(1, 1, 1, 1), note);
                Checks.due("1 and " + note + " of 3", x.pageOf(1), note < 3 ? 0 : 1);
                Checks.due("the next row", x.pageOf(2), note - 1);
            }
        });
        Checks.holds("in which the line that is carried out is kept free, unless it is the last item", () -> {
            TablePages x = Checks.sheet(4, 1, 1, 1);
            x.totalled(1);
            Checks.due("3 rows, and the total as the last item", Checks.used(x), "4");
            x.row(1, 0, false);
            Checks.due("a fourth row does not go into the line that is kept free", x.pageOf(3), 1);
            TablePages y = Checks.sheet(4, 1, 1);
            int c = y.cell(0, 1, 1, 1);
            y.totalled(1);
            y.notesAtEnd();
            y.note(c, 1);
            Checks.due("2 rows, the total, and the notes as the last item", Checks.used(y), "4");
            y.note(c, 2);
            Checks.due("notes of 2 need another page, and break on none", Checks.used(y), "4 4");
            Checks.due("they are together", Checks.notes(y), "0 2");
        });
        Checks.holds("unless it is the last item: without totals none is kept free", () -> {
            Checks.due("4 of 4 rows", Checks.used(Checks.sheet(4, 1, 1, 1, 1)), "4");
            Checks.due("4 of 5 rows", Checks.used(Checks.sheet(4, 1, 1, 1, 1, 1)), "4 2");
        });
    }

    private static void breaking() {
        Checks.holds("If it does not fit, it breaks, if it is a row that may break", () -> {
            Checks.due("may", Checks.spread(Checks.sheet(5, 2, -4), 1), "3 1");
            Checks.due("may not", Checks.spread(Checks.sheet(5, 2, 4), 1), "0 4");
        });
        Checks.holds("or the notes at the end", () -> {
            TablePages x = Checks.sheet(5, 1, 1, 1);
            x.notesAtEnd();
            x.note(x.cell(0, 1, 1, 1), 3);
            Checks.due("2 of 3", Checks.notes(x), "2 1");
        });
        Checks.holds("and the page has room for its notes and at least one line", () -> {
            Checks.due("1 line", Checks.spread(Checks.sheet(5, 4, -3), 1), "1 2");
            Checks.due("none", Checks.spread(Checks.sheet(5, 5, -3), 1), "0 3");
            for (int note = 1; note <= 3; note++) {
                TablePages x = Checks.sheet(6, 3, -4);
                x.note(x.at(1, 0), note);
                String due = note == 1 ? "2 2" : note == 2 ? "1 3" : "0 2 2";
                Checks.due("3 lines for 4 and " + note, Checks.spread(x, 1), due);
                Checks.due("the notes", Checks.notes(x), note == 3 ? "0 3 0" : note + " 0");
            }
        });
        Checks.holds("the line that is carried out being kept free in any case", () -> {
            for (int first = 2; first <= 4; first++) {
                TablePages x = Checks.sheet(5, first, -2);
                x.totalled(1);
                String due = first == 2 ? "2" : first == 3 ? "1 1" : "0 2";
                Checks.due(5 - first + " lines for 2 and out", Checks.spread(x, 1).substring(0, due.length()), due);
            }
            TablePages y = Checks.sheet(5, 1, 1);
            y.totalled(1);
            y.notesAtEnd();
            y.note(y.cell(0, 1, 1, 1), 3);
            Checks.due("the last item, too: 1 of 3 lines in 2", Checks.notes(y), "1 2");
            Checks.due("2 rows, total, 1 line, out", Checks.used(y), "5 4");
            y.row(1, 0, false);
            Checks.due("no line in 1, and all 3 in the room of 3 on the next page", Checks.notes(y), "0 3");
        });
        Checks.holds("as many lines as there is room for so are put, its notes, too", () -> {
            TablePages x = Checks.sheet(8, 2, -9);
            x.note(x.at(1, 0), 2);
            Checks.due("4 lines and 2 of notes behind 2", Checks.used(x), "8 6");
            Checks.due("4 and 5", Checks.spread(x, 1), "4 5");
            Checks.due("the notes", Checks.notes(x), "2 0");
            x.totalled(1);
            Checks.due("3 lines, and out", Checks.spread(x, 1), "3 5 1");
        });
        Checks.holds("and the rest goes on, on the next page, as an item by itself, without notes", () -> {
            Checks.due("rest 2, and behind it the next row", Checks.used(Checks.sheet(4, -6, 1)), "4 4");
            Checks.due("a rest breaks again", Checks.spread(Checks.sheet(4, -12), 0), "4 3 3 2");
            TablePages x = Checks.sheet(4, -6, 1);
            x.note(x.at(0, 0), 1);
            Checks.due("3 and 3 of 6", Checks.spread(x, 0), "3 3 0");
            Checks.due("the notes are not again on page 1", Checks.notes(x), "1 0 0");
            Checks.due("so 3 lines fit", Checks.used(x), "4 4 2");
            TablePages y = Checks.sheet(4, -5, -2);
            Checks.due("rest 1; 2 fit behind it", Checks.spread(y, 1), "0 2");
        });
        Checks.holds("Otherwise, if something was put on the page, the next page begins with it", () -> {
            TablePages x = Checks.sheet(6, 4, 3, 1);
            Checks.due("row 1", Checks.spread(x, 1), "0 3");
            Checks.due("row 2 does not go ahead of it", x.pageOf(2), 1);
            Checks.due("2 lines are free", Checks.used(x), "4 5");
            TablePages y = Checks.sheet(4, 1, 9);
            Checks.due("on the next it breaks", Checks.spread(y, 1), "0 3 3 3");
        });
    }

    private static void forced() {
        Checks.holds("If nothing was, it breaks all the same as told, whatever it is", () -> {
            Checks.due("9 in 4 and 3", Checks.spread(Checks.sheet(4, 9), 0), "4 3 2");
            Checks.due("4 in 4", Checks.spread(Checks.sheet(4, 4), 0), "4");
            Checks.due("5 in 4", Checks.spread(Checks.sheet(4, 5), 0), "4 1");
            TablePages x = Checks.sheet(4, 5);
            x.note(x.at(0, 0), 2);
            Checks.due("with its notes", Checks.spread(x, 0), "2 3");
            Checks.due("which come at once", Checks.notes(x), "2 0");
            x.note(0, 3);
            Checks.due("1 line and 3 of notes", Checks.spread(x, 0), "1 3 1");
            TablePages y = Checks.sheet(6, 6);
            y.totalled(1);
            Checks.due("6 and the total: out is kept free", Checks.spread(y, 0), "5 1");
            TablePages z = Checks.sheet(4, 3, 2, 1);
            Checks.due("behind the rest the next row", Checks.used(z), "3 4");
        });
        Checks.holds("and if there is no room even for its notes and one line, the table cannot be set", () -> {
            for (int lines = 1; lines <= 5; lines++) {
                TablePages x = Checks.sheet(lines, 1);
                x.note(x.cell(0, 1, 1, 1), 3);
                if (lines < 4) Checks.refused(x, Checks.STATE, "4 in " + lines, y -> y.pages());
                else Checks.due("4 in " + lines, x.pages(), 1);
            }
            for (int lines = 1; lines <= 3; lines++) {
                TablePages x = Checks.sheet(lines, 3);
                if (lines < 2) Checks.refused(x, Checks.STATE, "continued on a page of 1", y -> y.pages());
                else Checks.due("3 on pages of " + lines, Checks.spread(x, 0), lines == 2 ? "2 1" : "3");
            }
            for (int lines = 1; lines <= 5; lines++) {
                TablePages x = Checks.sheet(lines, 1, 1, 1, 1);
                x.totalled(1);
                if (lines < 4) Checks.refused(x, Checks.STATE, "continued, in, a row, out in " + lines, y -> y.pages());
                else Checks.due("rows on pages of " + lines, Checks.used(x), lines == 4 ? "4 4" : "5");
            }
            TablePages t = Checks.sheet(1);
            t.totalled(1);
            Checks.due("the total alone needs no line out", Checks.used(t), "1");
            t.row(1, 0, false);
            Checks.refused(t, Checks.STATE, "a row ahead of it needs one", y -> y.pages());
            t.setPaper(60, 2);
            Checks.due("row and total", Checks.used(t), "2");
        });
    }

    private static void carriedSums() {
        Checks.holds("A figure stands in the first line of its row", () -> {
            TablePages x = Checks.sheet(4, -9, 1);
            Checks.figure(x, 0, 1, 700, 0);
            Checks.figure(x, 1, 1, 50, 2);
            for (int page = 0; page < 3; page++) {
                Checks.due("carried out of page " + page, x.carried(page, 1), page < 2 ? 700 : 750);
                Checks.due("cell by cell", x.carriedByCells(page, 1), page < 2 ? 700 : 750);
            }
        });
        Checks.holds("What is carried out of a page for a totalled column is the sum of the figures in it of all body rows that "
            + "begin on this page or ahead of it", () -> {
            TablePages x = Checks.content(2, 5);
            int[] hundredths = {100, -250, 1000000, -1000000, 5};
            for (int i = 0; i < 5; i++) Checks.figure(x, i, 1, hundredths[i], 2);
            Checks.figure(x, x.row(0, 0, false), 1, 7, 2);
            Checks.figure(x, x.row(2, 0, false), 1, 7, 2);
            x.totalled(1);
            x.setPaper(60, 6);
            Checks.due("3 rows; row 3; row 4 and the total", x.pages(), 3);
            int[] due = {999850, -150, -145};
            for (int page = 0; page < 3; page++) {
                Checks.due("out of page " + page, x.carried(page, 1), due[page]);
                Checks.due("cell by cell", x.carriedByCells(page, 1), due[page]);
                Checks.due("another column", x.carried(page, 0), 0);
            }
        });
        Checks.holds("On a page a cell that spans rows shows as many of its lines, of those that were not on pages before, as "
            + "there are lines of its rows on this page", () -> {
            TablePages x = Checks.columns(1, 9, 1, 9);
            x.setPaper(60, 4);
            Checks.body(x, 3);
            Checks.tall(x, 0, 1, 1, 2);
            int c = Checks.tall(x, 0, 0, 3, 5);
            Checks.due("rows of 2, 1 and 2", Checks.heights(x, 3), "2 1 2");
            Checks.due("3 and 2", Checks.shown(x, c), "3 2");
            Checks.due("one line is free", Checks.used(x), "3 3");
            int other = x.cell(1, 1, 2, 1);
            x.word(other, 9, 0);
            x.word(other, 9, 0);
            Checks.due("1 and 1 of 2 lines", Checks.shown(x, other), "1 1");
            x.empty(other);
            x.word(other, 9, 0);
            Checks.due("1 line is on the first", Checks.shown(x, other), "1 0");
            x.empty(other);
            Checks.due("no line", Checks.shown(x, other), "0 0");
            Checks.due("a page behind all", x.shown(c, 2), 0);
        });
        Checks.holds("as there are lines of its rows on this page, of a row that breaks, too", () -> {
            TablePages x = Checks.columns(1, 9, 1, 9);
            x.setPaper(60, 4);
            x.row(1, 0, true);
            x.row(1, 0, true);
            int c = Checks.tall(x, 0, 0, 2, 9);
            int d = Checks.tall(x, 1, 1, 1, 2);
            Checks.due("rows of 1 and 8", Checks.heights(x, 2), "1 8");
            Checks.due("4, 3 and 2", Checks.shown(x, c), "4 3 2");
            Checks.due("2 on the page where its row begins", Checks.shown(x, d), "2 0 0");
        });
    }

    public static void main(String[] args) {
        whatItIs();
        columns();
        rows();
        cells();
        shownAndOut();
        contentsOfCells();
        fullTables();
        pieces();
        figures();
        sumsInColumns();
        singleColumns();
        severalColumns();
        fixedAndShares();
        rest();
        linesOfWords();
        heightsOfRows();
        heightOfTable();
        leastHeights();
        borders();
        neighbours();
        winners();
        frames();
        items();
        fitting();
        breaking();
        forced();
        carriedSums();
        Checks.end();
    }
}
