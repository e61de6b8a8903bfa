import java.lang.reflect.Modifier;

/** For each promise of the document: ordinary calls, the edges that it names, and wrong calls. */
public final class PromisesTest {
    private static int checks = 0;
    private static int wrong = 0;
    private static String promise = "";

    interface Call {
        void run();
    }

    private static void due(String what, long got, long want) {
        checks++;
        if (got != want) {
            wrong++;
            System.out.println(promise + ": " + what + " answered " + got + ", due is " + want);
        }
    }

    private static void due(String what, boolean got, boolean want) {
        due(what, got ? 1 : 0, want ? 1 : 0);
    }

    private static void refused(String what, Class<?> by, Call call) {
        checks++;
        try {
            call.run();
        } catch (RuntimeException e) {
            // An exception that a list throws by itself comes from the library: the class has to throw its own.
            boolean isOwn = e.getStackTrace().length > 0
                && e.getStackTrace()[0].getClassName().startsWith("TablePages");
            if (e.getClass() == by && isOwn) {
                return;
            }
            wrong++;
            System.out.println(promise + ": " + what + " threw " + e.getClass().getSimpleName() + ", due is "
                + by.getSimpleName());
            return;
        }
        wrong++;
        System.out.println(promise + ": " + what + " threw nothing, due is " + by.getSimpleName());
    }

    private static void noIndex(String what, Call call) {
        refused(what, IndexOutOfBoundsException.class, call);
    }

    private static void noArgument(String what, Call call) {
        refused(what, IllegalArgumentException.class, call);
    }

    private static void noState(String what, Call call) {
        refused(what, IllegalStateException.class, call);
    }

    private static final int MIN = Integer.MIN_VALUE;
    private static final int MAX = Integer.MAX_VALUE;

    /** Columns of content, and body rows without a group that may not break. */
    private static TablePages table(int columns, int rows) {
        TablePages x = new TablePages();
        for (int i = 0; i < columns; i++) x.column(0, 1);
        for (int i = 0; i < rows; i++) x.row(1, 0, false);
        return x;
    }

    private static int words(TablePages x, int row, int column, int... lengths) {
        int cell = x.cell(row, column, 1, 1);
        for (int length : lengths) x.word(cell, length, 0);
        return cell;
    }

    private static int figure(TablePages x, int row, int column, int hundredths, int decimals) {
        int cell = x.cell(row, column, 1, 1);
        x.figure(cell, hundredths, decimals);
        return cell;
    }

    /** A body row of so many lines, in column 0, by words of 9 on a paper of 9. */
    private static int tall(TablePages x, int row, int lines) {
        int cell = x.cell(row, 0, 1, 1);
        for (int i = 0; i < lines; i++) x.word(cell, 9, 0);
        return cell;
    }

    private static void newObject() {
        TablePages x = new TablePages();
        due("over()", x.over(), 0);
        due("tableHeight()", x.tableHeight(), 0);
        due("leastHeight()", x.leastHeight(), 0);
        due("pages()", x.pages(), 1);
        due("used(0)", x.used(0), 0);
        due("notesOn(0)", x.notesOn(0), 0);
        noIndex("least(0)", () -> x.least(0));
        noIndex("height(0)", () -> x.height(0));
        noIndex("lines(0)", () -> x.lines(0));
        due("notes stand on their pages", x.notesAtEnd(), true);
        due("the face is final", Modifier.isFinal(TablePages.class.getModifiers()), true);
        due("other members that can be seen", countOtherMembers(), 0);
        due("first column", x.column(0, 1), 0);
        due("first row", x.row(1, 0, false), 0);
        due("first cell", x.cell(0, 0, 1, 1), 0);
        due("first table border", x.border(3, 0, 0, 0), 0);
    }

    private static int countOtherMembers() {
        int count = TablePages.class.getDeclaredConstructors().length - 1;
        int open = 0;
        for (java.lang.reflect.Method m : TablePages.class.getDeclaredMethods()) {
            if (m.isSynthetic() || Modifier.isPrivate(m.getModifiers())) continue;
            if (Modifier.isPublic(m.getModifiers())) open++;
            else count++;
        }
        for (java.lang.reflect.Field f : TablePages.class.getDeclaredFields()) {
            if (!Modifier.isPrivate(f.getModifiers())) count++;
        }
        return count + open - 37;
    }

    private static void column() {
        TablePages x = new TablePages();
        for (int[] bad : new int[][] {{-1, 1}, {3, 1}, {MIN, 1}, {MAX, 1}, {0, 0}, {0, 61}, {1, 0}, {1, 61}, {2, 0},
            {2, 61}, {0, MIN}, {1, MAX}}) {
            noArgument("column(" + bad[0] + ", " + bad[1] + ")", () -> x.column(bad[0], bad[1]));
        }
        due("column(0, 1)", x.column(0, 1), 0);
        due("column(1, 60)", x.column(1, 60), 1);
        due("column(2, 60)", x.column(2, 60), 2);
        due("width of content", x.width(0), 0);
        due("width of a fixed one", x.width(1), 60);
        due("width of a share: 60 of 58 hundredths", x.width(2), 34);
        for (int i = 3; i < 6; i++) due("column " + i, x.column(0, 60), i);
        noState("a seventh column", () -> x.column(0, 1));
        noArgument("a seventh column of no kind", () -> x.column(3, 1));
        TablePages y = new TablePages();
        y.column(0, 1);
        y.row(0, 0, false);
        noState("a column behind a row", () -> y.column(0, 1));
        noArgument("a bad column behind a row", () -> y.column(0, 0));
        noIndex("no column was made", () -> y.least(1));
        TablePages z = new TablePages();
        z.column(1, 10);
        due("a column asked for", z.width(0), 10);
        z.column(1, 20);
        due("and one made then", z.width(1), 20);
    }

    private static void row() {
        TablePages x = new TablePages();
        noState("a row without columns", () -> x.row(1, 0, true));
        noArgument("a bad row without columns", () -> x.row(-1, 0, true));
        x.column(0, 1);
        for (int[] bad : new int[][] {{-1, 0}, {3, 0}, {MIN, 0}, {MAX, 0}, {1, -1}, {1, 10}, {0, 10}, {2, -1}, {0, MAX}}) {
            noArgument("row(" + bad[0] + ", " + bad[1] + ")", () -> x.row(bad[0], bad[1], true));
        }
        int number = 0;
        for (int i = 0; i < 3; i++) due("head row", x.row(0, 9, true), number++);
        noState("a fourth head row", () -> x.row(0, 0, true));
        for (int i = 0; i < 2; i++) due("foot row", x.row(2, 0, true), number++);
        noState("a third foot row", () -> x.row(2, 0, true));
        for (int i = 0; i < 24; i++) due("body row", x.row(1, 9, false), number++);
        noState("a 25th body row", () -> x.row(1, 0, true));
        noArgument("a 25th body row of a bad group", () -> x.row(1, 10, true));
        due("height of the table", x.tableHeight(), 24);
        due("lines used", x.used(0), 29);
        noIndex("height(29)", () -> x.height(29));
        TablePages y = table(1, 1);
        y.row(0, 0, false);
        y.row(1, 0, false);
        y.cell(0, 0, 2, 1);
        due("a new body row is behind all of its part", y.at(2, 0), 0);
        due("the head row is not between", y.at(1, 0), -1);
    }

    private static void cell() {
        TablePages x = table(6, 5);
        x.row(0, 0, false);
        for (int[] bad : new int[][] {{-1, 0}, {6, 0}, {0, -1}, {0, 6}, {MAX, 0}, {0, MAX}, {MIN, 0}, {0, MIN}}) {
            noIndex("cell(" + bad[0] + ", " + bad[1] + ", 1, 1)", () -> x.cell(bad[0], bad[1], 1, 1));
            noIndex("cell(" + bad[0] + ", " + bad[1] + ", 0, 0)", () -> x.cell(bad[0], bad[1], 0, 0));
        }
        for (int[] bad : new int[][] {{0, 1}, {5, 1}, {1, 0}, {1, 7}, {-1, 1}, {1, -1}, {MAX, 1}, {1, MAX}, {MIN, 1}}) {
            noArgument("cell(0, 0, " + bad[0] + ", " + bad[1] + ")", () -> x.cell(0, 0, bad[0], bad[1]));
        }
        noArgument("5 rows from the last row", () -> x.cell(4, 0, 5, 1));
        noState("2 rows from the last body row", () -> x.cell(4, 0, 2, 1));
        noState("4 rows from the third of 5", () -> x.cell(2, 0, 4, 1));
        noState("2 head rows", () -> x.cell(5, 0, 2, 1));
        noState("2 columns from the last", () -> x.cell(0, 5, 1, 2));
        due("4 rows and 6 columns", x.cell(1, 0, 4, 6), 0);
        noState("a place in the middle of another", () -> x.cell(2, 3, 1, 1));
        noState("a place that reaches another", () -> x.cell(0, 3, 2, 1));
        due("beside it", x.cell(0, 0, 1, 6), 1);
        due("in the head", x.cell(5, 5, 1, 1), 2);
        due("place of none", x.at(5, 0), -1);
        TablePages y = table(6, 24);
        y.hide(1);
        for (int i = 0; i < 100; i++) due("cell " + i, y.cell(i / 6, i % 6, 1, 1), i);
        noState("a 101st cell", () -> y.cell(20, 0, 1, 1));
        noState("a hidden place is taken too", () -> y.cell(0, 1, 1, 1));
        TablePages z = table(2, 3);
        figure(z, 0, 0, 300, 0);
        figure(z, 1, 0, 100, 0);
        figure(z, 2, 0, 200, 0);
        z.sort(0, false);
        noState("row 0 stands last now", () -> z.cell(0, 1, 2, 1));
        due("rows 2 and 0 as they stand now", z.cell(2, 1, 2, 1), 3);
        due("its second place", z.at(0, 1), 3);
        due("not row 1", z.at(1, 1), -1);
        TablePages h = table(3, 1);
        h.hide(2);
        due("hidden columns are spanned too", h.cell(0, 1, 1, 2), 0);
        noState("from hidden column 2 on are not 2", () -> h.cell(0, 2, 1, 2));
    }

    private static void word() {
        TablePages x = table(2, 1);
        int c = x.cell(0, 0, 1, 1);
        for (int bad : new int[] {-1, 1, MIN, MAX}) {
            noIndex("word(" + bad + ", 1, 0)", () -> x.word(bad, 1, 0));
            noIndex("word(" + bad + ", 0, 9)", () -> x.word(bad, 0, 9));
        }
        for (int[] bad : new int[][] {{0, 0}, {21, 0}, {-1, 0}, {MIN, 0}, {MAX, 0}, {1, 1}, {5, 5}, {5, -1}, {5, MAX},
            {20, 20}}) {
            noArgument("word(0, " + bad[0] + ", " + bad[1] + ")", () -> x.word(c, bad[0], bad[1]));
        }
        due("first word", x.word(c, 1, 0), 1);
        due("second word", x.word(c, 20, 19), 2);
        due("third word", x.word(c, 2, 1), 3);
        for (int i = 4; i <= 12; i++) due("word " + i, x.word(c, 1, 0), i);
        noState("a 13th word", () -> x.word(c, 1, 0));
        noArgument("a bad 13th word", () -> x.word(c, 1, 1));
        int f = figure(x, 0, 1, 100, 0);
        noState("a word to a figure", () -> x.word(f, 1, 0));
        x.hide(1);
        noState("a word to a figure that is out", () -> x.word(f, 1, 0));
        due("most: 1 + 20 + 2 + 9 and 11 between", x.most(0), 43);
        due("least", x.least(0), 20);
    }

    private static void figure() {
        TablePages x = table(3, 4);
        int c = x.cell(0, 0, 1, 1);
        for (int bad : new int[] {-1, 1, MIN, MAX}) {
            noIndex("figure(" + bad + ", 0, 0)", () -> x.figure(bad, 0, 0));
            noIndex("figure(" + bad + ", 1, 9)", () -> x.figure(bad, 1, 9));
        }
        for (int[] bad : new int[][] {{1000001, 2}, {-1000001, 2}, {1000100, 0}, {MIN, 2}, {MAX, 2}, {0, -1}, {0, 3},
            {0, MIN}, {0, MAX}, {10, 0}, {150, 0}, {-50, 0}, {5, 1}, {-101, 1}, {99, 1}}) {
            noArgument("figure(0, " + bad[0] + ", " + bad[1] + ")", () -> x.figure(c, bad[0], bad[1]));
        }
        due("no figure yet", x.total(0), 0);
        x.figure(c, 1000000, 0);
        due("the greatest", x.total(0), 1000000);
        x.figure(c, -1000000, 2);
        due("in place of the one it has", x.total(0), -1000000);
        due("-10000.00", x.least(0), 9);
        x.figure(c, -110, 1);
        due("-1.1", x.least(0), 4);
        int w = words(x, 0, 1, 3);
        noState("a figure to words", () -> x.figure(w, 0, 0));
        noArgument("a bad figure to words", () -> x.figure(w, 1, 0));
        int rows = x.cell(1, 0, 2, 1), columns = x.cell(3, 0, 1, 2);
        noState("over rows", () -> x.figure(rows, 0, 0));
        noState("over columns", () -> x.figure(columns, 0, 0));
        x.hide(1);
        noState("over columns of which one is hidden", () -> x.figure(columns, 0, 0));
        noState("to words that are out", () -> x.figure(w, 0, 0));
        TablePages y = table(2, 1);
        int out = y.cell(0, 0, 1, 1);
        y.hide(0);
        y.figure(out, 500, 0);
        due("a figure that is out", y.total(0), 0);
        y.hide(0);
        due("and shown again", y.total(0), 500);
    }

    private static void empty() {
        TablePages x = table(2, 1);
        noIndex("empty(0)", () -> x.empty(0));
        noIndex("empty(-1)", () -> x.empty(-1));
        int w = words(x, 0, 0, 3, 4, 5), f = figure(x, 0, 1, 100, 0);
        due("least before", x.least(0), 5);
        due("empty() of words", x.empty(w), 3);
        due("least then", x.least(0), 0);
        due("lines then", x.lines(w), 0);
        due("empty() once more", x.empty(w), 0);
        due("empty() of a figure", x.empty(f), 0);
        due("total then", x.total(1), 0);
        noState("no figure any more", () -> x.point(f));
        due("a word then", x.word(f, 4, 0), 1);
        x.figure(w, 700, 0);
        due("a figure then", x.total(0), 700);
        noIndex("empty(2)", () -> x.empty(2));
        noIndex("empty(MIN)", () -> x.empty(MIN));
    }

    private static void note() {
        TablePages x = table(2, 3);
        x.row(0, 0, false);
        x.row(2, 0, false);
        int b = x.cell(1, 0, 2, 1), h = x.cell(3, 0, 1, 1), f = x.cell(4, 0, 1, 1);
        noIndex("note(3, 0)", () -> x.note(3, 0));
        noIndex("note(-1, 9)", () -> x.note(-1, 9));
        noArgument("note(b, 4)", () -> x.note(b, 4));
        noArgument("note(b, -1)", () -> x.note(b, -1));
        noArgument("note(h, 4)", () -> x.note(h, 4));
        noArgument("note(b, MAX)", () -> x.note(b, MAX));
        noState("note(h, 1)", () -> x.note(h, 1));
        noState("note(h, 0)", () -> x.note(h, 0));
        noState("note(f, 1)", () -> x.note(f, 1));
        due("first note", x.note(b, 3), 0);
        due("on its page", x.notesOn(0), 3);
        due("second note", x.note(b, 1), 3);
        due("none", x.note(b, 0), 1);
        due("on its page", x.notesOn(0), 0);
        due("still none", x.note(b, 2), 0);
        x.hide(0);
        due("a note that is out counts for nothing", x.notesOn(0), 0);
        due("but is kept", x.note(b, 1), 2);
    }

    private static void at() {
        TablePages x = table(3, 3);
        for (int bad : new int[] {-1, 3, MIN, MAX}) {
            noIndex("at(" + bad + ", 0)", () -> x.at(bad, 0));
            noIndex("at(0, " + bad + ")", () -> x.at(0, bad));
        }
        due("at(0, 0)", x.at(0, 0), -1);
        x.cell(0, 0, 1, 1);
        x.cell(1, 1, 2, 2);
        due("at(0, 0)", x.at(0, 0), 0);
        for (int r = 1; r < 3; r++) for (int c = 1; c < 3; c++) due("at(" + r + ", " + c + ")", x.at(r, c), 1);
        due("at(1, 0)", x.at(1, 0), -1);
        due("at(0, 1)", x.at(0, 1), -1);
        x.hide(1);
        x.hide(2);
        due("a cell that is out has its places", x.at(2, 2), 1);
    }

    private static void setPaper() {
        TablePages x = new TablePages();
        for (int[] bad : new int[][] {{0, 1}, {151, 1}, {1, 0}, {1, 101}, {-1, 5}, {5, -1}, {MIN, 1}, {1, MAX}}) {
            noArgument("setPaper(" + bad[0] + ", " + bad[1] + ")", () -> x.setPaper(bad[0], bad[1]));
        }
        x.column(2, 50);
        due("60 at first", x.width(0), 30);
        noArgument("setPaper(100, 0)", () -> x.setPaper(100, 0));
        due("60 still", x.width(0), 30);
        x.setPaper(150, 1);
        due("150", x.width(0), 75);
        x.row(1, 0, false);
        x.row(1, 0, false);
        noState("a page of one line takes no second page", () -> x.pages());
        x.setPaper(1, 100);
        due("1", x.width(0), 0);
        due("100 lines", x.pages(), 1);
        TablePages y = table(1, 24);
        for (int i = 0; i < 3; i++) y.row(0, 0, false);
        for (int i = 0; i < 2; i++) y.row(2, 0, false);
        due("29 of 30 lines at first", y.pages(), 1);
        words(y, 0, 0, 20, 20, 20, 20);
        due("30 of 30 lines: 2 words of 20 in a line of 60", y.pages(), 1);
        y.word(0, 20, 0);
        due("31 of 30 lines", y.pages(), 2);
        y.setPaper(60, 28);
        due("29 of 28 lines", y.pages(), 2);
    }

    private static void notesAtEnd() {
        TablePages x = table(1, 2);
        x.setPaper(60, 4);
        x.note(x.cell(0, 0, 1, 1), 2);
        x.note(x.cell(1, 0, 1, 1), 2);
        due("lines of notes on page 0", x.notesOn(0), 2);
        due("on page 1", x.notesOn(1), 2);
        due("at the end", x.notesAtEnd(), true);
        due("at the end: page 0 has 2 rows and 2 lines of notes", x.notesOn(0), 2);
        due("and page 1 the others", x.notesOn(1), 2);
        due("rows are together", x.pageOf(1), 0);
        due("on their pages again", x.notesAtEnd(), false);
        due("rows are apart", x.pageOf(1), 1);
        TablePages y = table(1, 1);
        y.notesAtEnd();
        due("without notes nothing stands at the end", y.used(0), 1);
        y.note(y.cell(0, 0, 1, 1), 1);
        due("with one", y.used(0), 2);
    }

    private static void totalled() {
        TablePages x = table(2, 1);
        for (int bad : new int[] {-1, 2, MIN, MAX}) noIndex("totalled(" + bad + ")", () -> x.totalled(bad));
        due("used without", x.used(0), 1);
        due("totalled(1)", x.totalled(1), true);
        due("a total comes behind", x.used(0), 2);
        x.hide(1);
        due("hidden, it counts as not totalled", x.used(0), 1);
        x.hide(1);
        due("and is again", x.used(0), 2);
        due("totalled(1) again", x.totalled(1), false);
        due("used without", x.used(0), 1);
        TablePages y = table(1, 0);
        y.totalled(0);
        due("a total also without rows", y.used(0), 1);
        TablePages z = table(1, 3);
        for (int i = 0; i < 3; i++) figure(z, i, 0, i == 2 ? -60000 : 60000, 0);
        due("600, 600, -600", z.least(0), 4);
        z.totalled(0);
        due("1200", z.least(0), 4);
        z.figure(1, 990000, 0);
        due("10500 of those above 0", z.least(0), 5);
        z.empty(0);
        z.empty(1);
        z.figure(0, -50000, 0);
        z.figure(1, -60000, 0);
        due("-1700 of those below 0", z.least(0), 5);
        z.totalled(0);
        due("-600", z.least(0), 4);
        TablePages w = table(2, 1);
        w.totalled(0);
        due("no figures, no parts", w.least(0), 0);
        w.totalled(1);
        figure(w, 0, 1, 60000, 0);
        for (int i = 0; i < 5; i++) {
            w.setPaper(60, 30);
            due("600 as often as it is asked for", w.least(1), 3);
        }
    }

    private static void hide() {
        TablePages x = table(3, 1);
        for (int bad : new int[] {-1, 3, MIN, MAX}) noIndex("hide(" + bad + ")", () -> x.hide(bad));
        int c = x.cell(0, 0, 1, 2);
        x.word(c, 9, 0);
        figure(x, 0, 2, 100, 0);
        due("hide(0)", x.hide(0), true);
        due("the cell shows column 1 alone", x.least(1), 9);
        due("hide(1)", x.hide(1), true);
        due("the cell is out", x.lines(c), 0);
        noState("all would be hidden", () -> x.hide(2));
        due("a total is still there", x.total(2), 100);
        due("hide(1) again", x.hide(1), false);
        due("hide(2)", x.hide(2), true);
        due("no figures", x.total(2), 0);
        noState("hide(1)", () -> x.hide(1));
        due("hide(0) again", x.hide(0), false);
        TablePages y = table(1, 0);
        noState("the one column", () -> y.hide(0));
    }

    private static void sort() {
        TablePages x = table(2, 5);
        for (int bad : new int[] {-1, 2, MIN, MAX}) noIndex("sort(" + bad + ")", () -> x.sort(bad, true));
        int[] hundredths = {500, -100, 0, 500, 0};
        for (int i = 0; i < 4; i++) if (i != 2) figure(x, i, 0, hundredths[i], 0);
        words(x, 2, 0, 3);
        x.row(0, 0, false);
        x.cell(5, 1, 1, 1);
        due("rising: 1 0 3 2 4", x.sort(0, false), 4);
        due("order", order(x, 5), 10324);
        due("once more", x.sort(0, false), 0);
        due("falling: 0 3 1 2 4", x.sort(0, true), 3);
        due("order", order(x, 5), 3124);
        due("without figures all stay", x.sort(1, true), 0);
        x.hide(0);
        due("a hidden column has no figures", x.sort(0, false), 0);
        x.hide(0);
        due("rising again", x.sort(0, false), 3);
        TablePages y = table(2, 3);
        y.row(0, 0, false);
        y.row(0, 0, false);
        y.cell(3, 0, 2, 1);
        due("rows are spanned in the head alone", y.sort(0, false), 0);
        y.cell(0, 1, 2, 1);
        noState("rows are spanned in the body", () -> y.sort(0, false));
        noIndex("and there is no such column", () -> y.sort(2, false));
        y.hide(1);
        noState("also one that is out", () -> y.sort(0, false));
        due("no rows", table(1, 0).sort(0, true), 0);
    }

    /** The numbers of at most 5 body rows in their order, as digits, told from the border of the row above. */
    private static int order(TablePages x, int rows) {
        int[] below = new int[6];
        for (int row = 0; row < rows; row++) x.border(1, row, 2, row + 1);
        for (int row = 0; row < rows; row++) below[x.edge(row, 0, 0) / 10] = row;
        int digits = 0;
        for (int i = 0, row = below[0]; i < rows; i++, row = below[row + 1]) digits = 10 * digits + row;
        return digits;
    }

    private static void least() {
        TablePages x = table(3, 6);
        for (int bad : new int[] {-1, 3, MIN, MAX}) noIndex("least(" + bad + ")", () -> x.least(bad));
        due("without cells", x.least(0), 0);
        int c = x.cell(0, 0, 1, 1);
        x.word(c, 5, 0);
        due("a word", x.least(0), 5);
        x.word(c, 12, 3);
        due("cut early: 12 - 3", x.least(0), 9);
        x.word(c, 16, 11);
        due("cut late: 11 + 1", x.least(0), 12);
        int f = figure(x, 1, 1, 1234, 2);
        due("12.34", x.least(1), 5);
        figure(x, 2, 1, -100000, 0);
        due("left -1000, right .34", x.least(1), 8);
        x.note(f, 1);
        due("and its note", x.least(1), 9);
        int wide = x.cell(3, 0, 1, 3);
        x.word(wide, 20, 0);
        x.word(wide, 20, 0);
        due("12 + 1 + 9 + 1 + 0 are enough", x.least(2), 0);
        int pair = x.cell(4, 1, 1, 2);
        x.word(pair, 15, 0);
        due("fewer columns first: column 2 from 0 to 5", x.least(2), 5);
        x.hide(0);
        due("hidden", x.least(0), 0);
        due("the wide one over two: 20 = 10 + 1 + 9, the lower first", x.least(1), 10);
        due("the higher", x.least(2), 9);
        x.hide(0);
        TablePages y = new TablePages();
        y.column(1, 1);
        y.column(0, 1);
        y.column(1, 1);
        y.column(0, 1);
        y.row(1, 0, false);
        y.row(1, 0, false);
        y.row(1, 0, false);
        y.word(y.cell(0, 0, 1, 4), 20, 0);
        due("the fixed ones get nothing", y.least(0) + y.least(2), 0);
        due("17 for two: the lower first", y.least(1), 9);
        due("the other", y.least(3), 8);
        y.hide(1);
        y.hide(3);
        due("all fixed: the last one", y.least(2), 19);
        due("not the first", y.least(0), 0);
        TablePages u = table(3, 2);
        u.word(u.cell(0, 0, 1, 3), 20, 0);
        u.word(u.cell(1, 1, 1, 2), 15, 0);
        due("7 and 7 for two first; then 4 for three", u.least(0) * 100 + u.least(1) * 10 + u.least(2), 477);
        TablePages v = table(3, 2);
        v.word(v.cell(1, 0, 1, 2), 11, 0);
        v.word(v.cell(0, 1, 1, 2), 20, 0);
        due("of as many the lower number first: 5", v.least(0), 5);
        due("then 10 and 9", v.least(1) * 10 + v.least(2), 109);
        TablePages six = table(6, 1);
        six.word(six.cell(0, 0, 1, 6), 20, 0);
        due("15 for six: the lower first", six.least(0) * 10 + six.least(2), 33);
        due("the higher", six.least(3) * 10 + six.least(5), 22);
        TablePages z = table(2, 1);
        z.row(0, 0, false);
        figure(z, 1, 0, 12345, 2);
        figure(z, 0, 1, 0, 0);
        due("a head's figure too", z.least(0), 6);
        due("0", z.least(1), 1);
    }

    private static void most() {
        TablePages x = table(3, 5);
        for (int bad : new int[] {-1, 3, MIN, MAX}) noIndex("most(" + bad + ")", () -> x.most(bad));
        due("without cells", x.most(0), 0);
        int c = words(x, 0, 0, 5, 6, 7);
        due("5 + 1 + 6 + 1 + 7", x.most(0), 20);
        x.empty(c);
        x.word(c, 9, 4);
        due("one word with a cut", x.most(0), 9);
        figure(x, 0, 1, 123450, 1);
        due("1234.5", x.most(1), 6);
        int pair = x.cell(1, 1, 1, 2);
        x.word(pair, 10, 0);
        x.word(pair, 10, 0);
        due("21 = 10 + 1 + 10", x.most(1), 10);
        due("the other", x.most(2), 10);
        due("least ones: 6 + 1 + 3", x.least(2), 3);
        x.hide(1);
        due("hidden", x.most(1), 0);
        due("alone then", x.most(2), 21);
        TablePages y = table(2, 2);
        int wide = y.cell(0, 0, 1, 2);
        y.word(wide, 20, 0);
        words(y, 1, 0, 2, 2, 2, 2);
        due("least: 10 and 9", y.least(0), 10);
        due("most of column 1: 20 = 11 + 1 + 8", y.most(1), 9);
        due("most of column 0", y.most(0), 11);
        TablePages z = table(2, 2);
        figure(z, 0, 0, -1000000, 2);
        z.word(z.cell(1, 0, 1, 2), 10, 0);
        due("a figure of 9 and 1 between are enough for 10", z.most(1), 0);
    }

    private static void width() {
        TablePages x = table(2, 2);
        for (int bad : new int[] {-1, 2, MIN, MAX}) noIndex("width(" + bad + ")", () -> x.width(bad));
        words(x, 0, 0, 4, 4, 4);
        words(x, 0, 1, 5, 5, 5, 5);
        due("all have their most ones", x.width(0) * 100 + x.width(1), 1423);
        x.setPaper(38, 30);
        due("just so", x.width(0) * 100 + x.width(1), 1423);
        x.setPaper(20, 30);
        due("rest 10 of 28: 3 and 6, and 1 to the first", x.width(0) * 100 + x.width(1), 4 * 100 + 400 + 11);
        x.setPaper(10, 30);
        due("rest 0", x.width(0) * 100 + x.width(1), 405);
        x.setPaper(1, 30);
        due("over", x.width(0) * 100 + x.width(1), 405);
        x.hide(1);
        due("hidden", x.width(1), 0);
        x.setPaper(10, 30);
        due("no column is between then", x.width(0), 10);
        TablePages y = new TablePages();
        y.column(1, 5);
        y.column(2, 33);
        y.column(0, 60);
        y.row(1, 0, false);
        due("a fixed one", y.width(0), 5);
        due("33 of 58 hundredths: 19.14", y.width(1), 19);
        due("content without cells", y.width(2), 0);
        words(y, 0, 0, 9);
        words(y, 0, 1, 20);
        due("fixed, at least its least width", y.width(0), 9);
        due("a share, too", y.width(1), 20);
        y.setPaper(1, 1);
        due("a share of less than nothing", y.width(1), 20);
        TablePages z = table(3, 1);
        words(z, 0, 1, 3, 3);
        words(z, 0, 2, 3, 3);
        z.setPaper(9, 30);
        due("what is left goes to the first that lacks", z.width(0) * 100 + z.width(1) * 10 + z.width(2), 43);
    }

    private static void over() {
        TablePages x = table(2, 1);
        words(x, 0, 0, 20);
        words(x, 0, 1, 15);
        due("fits", x.over(), 0);
        x.setPaper(36, 30);
        due("just fits", x.over(), 0);
        x.setPaper(35, 30);
        due("over by 1", x.over(), 1);
        x.setPaper(1, 30);
        due("over by 35", x.over(), 35);
        x.hide(0);
        due("over by 14", x.over(), 14);
        TablePages y = new TablePages();
        y.setPaper(1, 30);
        for (int i = 0; i < 6; i++) y.column(1, 60);
        due("6 fixed ones", y.over(), 364);
    }

    private static void point() {
        TablePages x = table(2, 4);
        x.row(2, 0, false);
        int a = figure(x, 0, 0, 12345, 2), b = figure(x, 1, 0, 700, 0), w = words(x, 2, 0, 10);
        int c = figure(x, 4, 0, 10, 1), none = x.cell(3, 0, 1, 1), out = figure(x, 3, 1, 100, 0);
        for (int bad : new int[] {-1, 6, MIN, MAX}) noIndex("point(" + bad + ")", () -> x.point(bad));
        noState("point() of words", () -> x.point(w));
        noState("point() of nothing", () -> x.point(none));
        due("width 10 less .45", x.point(a), 7);
        due("where it would be", x.point(b), 7);
        due("in the foot", x.point(c), 7);
        x.note(b, 1);
        due("a note of one without decimals is 1: .45 is more", x.point(a), 7);
        x.note(a, 1);
        due(".45 and a note", x.point(b), 6);
        due("the other column", x.point(out), 1);
        x.hide(1);
        noState("point() of one that is out", () -> x.point(out));
        TablePages y = table(1, 1);
        int f = figure(y, 0, 0, 700, 0);
        due("7", y.point(f), 1);
        y.note(f, 2);
        due("7 and a note", y.point(f), 1);
        due("least", y.least(0), 2);
    }

    private static void begins() {
        TablePages x = table(2, 5);
        int a = figure(x, 0, 0, -5, 2), b = figure(x, 1, 0, 123400, 0), c = figure(x, 2, 0, 0, 1), w = words(x, 3, 0, 3);
        for (int bad : new int[] {-1, 4, MIN, MAX}) noIndex("begins(" + bad + ")", () -> x.begins(bad));
        noState("begins() of words", () -> x.begins(w));
        due("-0.05", x.begins(a), 2);
        due("1234", x.begins(b), 0);
        due("0.0", x.begins(c), 3);
        int d = figure(x, 4, 0, -1000000, 2);
        due("-10000.00", x.begins(d), 0);
        due("1234", x.begins(b), 2);
        x.figure(d, 99900, 0);
        due("999", x.begins(d), 1);
        x.hide(0);
        noState("begins() of one that is out", () -> x.begins(b));
    }

    private static int laidOut(int width, int... lengthsAndCuts) {
        TablePages x = new TablePages();
        x.column(1, width);
        x.row(1, 0, false);
        int c = x.cell(0, 0, 1, 1);
        for (int i = 0; i < lengthsAndCuts.length; i += 2) x.word(c, lengthsAndCuts[i], lengthsAndCuts[i + 1]);
        return x.lines(c);
    }

    private static void lines() {
        TablePages x = table(2, 2);
        int e = x.cell(0, 0, 1, 1), f = figure(x, 0, 1, 100, 2), w = words(x, 1, 0, 3, 3, 3);
        for (int bad : new int[] {-1, 3, MIN, MAX}) noIndex("lines(" + bad + ")", () -> x.lines(bad));
        due("of none", x.lines(e), 0);
        due("of a figure", x.lines(f), 1);
        due("of words", x.lines(w), 1);
        x.setPaper(12, 30);
        due("3 3 in 7", x.lines(w), 2);
        x.hide(0);
        due("of one that is out", x.lines(w), 0);
        due("just fits", laidOut(10, 4, 0, 5, 0), 1);
        due("does not", laidOut(9, 4, 0, 5, 0), 2);
        due("a cut word's first piece just fits: 4 + 1 + 3 + 1", laidOut(9, 4, 0, 8, 3), 2);
        due("it does not fit: the whole comes into the next line", laidOut(8, 4, 0, 8, 3, 4, 0), 3);
        due("the rest and the next word in one line: 5 + 1 + 3", laidOut(9, 4, 0, 8, 3, 3, 0), 2);
        due("the rest has no cut any more", laidOut(12, 6, 0, 20, 10), 3);
        due("a cut at once", laidOut(12, 20, 10), 2);
        due("cut though the whole would fit into the next", laidOut(10, 4, 0, 8, 4, 5, 0), 2);
        due("the rest and the next word are too long: 5 + 1 + 4", laidOut(9, 4, 0, 8, 3, 4, 0), 3);
        due("no piece fits: 8 alone, and 2", laidOut(8, 4, 0, 8, 3, 2, 0), 3);
        due("a cell over two columns, with 1 between", laidOverTwo(), 1);
    }

    private static int laidOverTwo() {
        TablePages x = new TablePages();
        x.column(1, 5);
        x.column(1, 5);
        x.row(1, 0, false);
        int c = x.cell(0, 0, 1, 2);
        x.word(c, 5, 0);
        x.word(c, 5, 0);
        return x.lines(c);
    }

    private static void height(boolean byCells) {
        TablePages x = table(2, 5);
        x.row(0, 0, false);
        x.row(2, 0, false);
        for (int bad : new int[] {-1, 7, MIN, MAX}) noIndex("height(" + bad + ")", () -> heightOf(x, bad, byCells));
        due("without cells", heightOf(x, 0, byCells), 1);
        x.setPaper(9, 30);
        x.hide(1);
        tall(x, 0, 3);
        due("3 lines", heightOf(x, 0, byCells), 3);
        int three = x.cell(1, 0, 3, 1);
        for (int i = 0; i < 8; i++) x.word(three, 9, 0);
        due("8 lines over 3: the first", heightOf(x, 1, byCells), 1);
        due("the second", heightOf(x, 2, byCells), 1);
        due("the last one gets the rest", heightOf(x, 3, byCells), 6);
        tall(x, 5, 2);
        tall(x, 6, 4);
        due("a head", heightOf(x, 5, byCells), 2);
        due("a foot", heightOf(x, 6, byCells), 4);
        TablePages y = table(2, 3);
        y.setPaper(19, 30);
        int long3 = y.cell(0, 0, 3, 1), long2 = y.cell(0, 1, 2, 1);
        for (int i = 0; i < 6; i++) y.word(long3, 9, 0);
        for (int i = 0; i < 5; i++) y.word(long2, 9, 0);
        due("the cell that spans fewer goes first", heightOf(y, 1, byCells), 4);
        due("the other lacks 6 - 1 - 4 - 1 = 0", heightOf(y, 2, byCells), 1);
        y.hide(1);
        y.setPaper(9, 30);
        due("out, it counts for nothing", heightOf(y, 1, byCells), 1);
        due("the last", heightOf(y, 2, byCells), 4);
        y.hide(1);
        y.setPaper(19, 30);
        y.empty(long2);
        due("emptied", heightOf(y, 1, byCells), 1);
        TablePages z = table(1, 5);
        z.setPaper(9, 30);
        int four = z.cell(1, 0, 4, 1);
        for (int i = 0; i < 6; i++) z.word(four, 9, 0);
        words(z, 0, 0, 4, 4, 4);
        due("4 and 4 in a line of 9, then 4", heightOf(z, 0, byCells), 2);
        due("6 lines over 4: the third", heightOf(z, 3, byCells), 1);
        due("the last one", heightOf(z, 4, byCells), 3);
    }

    private static int heightOf(TablePages x, int row, boolean byCells) {
        return byCells ? x.heightByCells(row) : x.height(row);
    }

    private static void tableHeight() {
        TablePages x = table(1, 2);
        x.row(0, 0, false);
        x.row(2, 0, false);
        due("two rows; heads and feet do not count", x.tableHeight(), 2);
        x.setPaper(9, 30);
        tall(x, 0, 3);
        tall(x, 2, 5);
        due("3 + 1", x.tableHeight(), 4);
        x.setPaper(60, 30);
        due("wide enough", x.tableHeight(), 2);
        due("without rows", table(1, 0).tableHeight(), 0);
    }

    private static void leastHeight() {
        TablePages x = table(2, 2);
        x.setPaper(14, 30);
        words(x, 0, 0, 3, 3, 3);
        words(x, 1, 1, 6, 1, 6, 1, 6);
        due("rest 4 goes as 2 and 2: 3 + 3", x.tableHeight(), 6);
        due("better is none", x.leastHeight(), 6);
        x.setPaper(16, 30);
        due("rest 6 goes as 2 and 4", x.tableHeight(), 6);
        due("better is 4 and 2: 2 + 3", x.leastHeight(), 5);
        due("the widths are as they were", x.width(0), 5);
        due("the heights too", x.height(0), 3);
        x.setPaper(15, 30);
        due("4 and 2 would be over", x.leastHeight(), 6);
        x.setPaper(2, 30);
        due("over: the least ones alone: 3 + 5", x.leastHeight(), 8);
        x.setPaper(150, 30);
        due("most ones", x.tableHeight(), 2);
        due("no more than 8 above the least, 11 and 14: 1 + 3", x.leastHeight(), 4);
        TablePages y = table(4, 1);
        noState("4 columns of content", () -> y.leastHeight());
        y.hide(1);
        due("3 that are not hidden", y.leastHeight(), 1);
        TablePages z = new TablePages();
        for (int i = 0; i < 4; i++) z.column(1 + i % 2, 10);
        z.row(0, 0, false);
        due("none of content, no body", z.leastHeight(), 0);
        TablePages o = table(1, 1);
        words(o, 0, 0, 1, 1, 1, 1, 1, 1, 1, 1, 1, 1);
        due("10 words of 1: 1 and 8 take 5", o.leastHeight(), 2);
        o.setPaper(9, 30);
        due("just so", o.leastHeight(), 2);
        o.setPaper(8, 30);
        due("4 in a line", o.leastHeight(), 3);
        TablePages m = table(2, 2);
        m.word(m.cell(0, 0, 1, 1), 3, 1);
        int long20 = m.cell(0, 1, 1, 1), over = m.cell(1, 0, 1, 2);
        for (int i = 0; i < 12; i++) m.word(long20, 20, 0);
        for (int i = 0; i < 12; i++) m.word(over, 5, 0);
        due("no more than the most, 3 and 28: 12 + 3", m.leastHeight(), 15);
        TablePages t = table(3, 2);
        int three = t.cell(0, 0, 1, 3);
        for (int i = 0; i < 10; i++) t.word(three, 5, 0);
        words(t, 1, 0, 1, 1, 1, 1, 1, 1, 1, 1);
        due("all three 8 above the least, 29 together: 2 + 2", t.leastHeight(), 4);
    }

    private static void border() {
        TablePages x = table(2, 2);
        x.cell(0, 0, 1, 1);
        for (int[] bad : new int[][] {{-1, 0, 0, 0}, {4, 0, 0, 0}, {0, 0, -1, 0}, {0, 0, 4, 0}, {1, 0, 1, 0},
            {1, 0, 3, 0}, {1, 0, 4, 0}, {2, 0, 0, 0}, {2, 0, 2, 0}, {2, 0, -1, 0}, {0, 0, 0, -1}, {0, 0, 0, 6},
            {3, 0, 0, 6}, {3, 0, 0, -1}, {0, 9, 0, 6}, {1, 9, 1, 0}, {MIN, 0, 0, 0}, {MAX, 0, 0, 0}, {0, 0, MAX, 0}}) {
            noArgument("border of kind " + bad[0] + ", number " + bad[1] + ", side " + bad[2] + ", weight " + bad[3],
                () -> x.border(bad[0], bad[1], bad[2], bad[3]));
        }
        for (int[] bad : new int[][] {{0, 1}, {0, -1}, {1, 2}, {1, -1}, {2, 2}, {2, -1}, {0, MAX}, {1, MIN}}) {
            noIndex("border of kind " + bad[0] + ", number " + bad[1], () -> x.border(bad[0], bad[1], 3 - bad[0] % 2, 0));
        }
        for (int side = 0; side < 4; side++) {
            due("cell", x.border(0, 0, side, side + 1), 0);
            due("cell before", x.border(0, 0, side, 5), side + 1);
        }
        due("row top", x.border(1, 1, 0, 4), 0);
        due("row bottom", x.border(1, 1, 2, 3), 0);
        due("row before", x.border(1, 1, 0, 0), 4);
        due("row before", x.border(1, 1, 2, 0), 3);
        due("column right", x.border(2, 1, 1, 4), 0);
        due("column left", x.border(2, 1, 3, 3), 0);
        due("column before", x.border(2, 1, 1, 0), 4);
        due("column before", x.border(2, 1, 3, 0), 3);
        due("table", x.border(3, -7, 99, 2), 0);
        due("table before", x.border(3, 0, 0, 1), 2);
        x.hide(0);
        due("a cell that is out has its border", x.border(0, 0, 0, 1), 5);
    }

    private static void edge() {
        TablePages x = table(3, 2);
        x.row(0, 0, false);
        x.row(2, 0, false);
        for (int bad : new int[] {-1, 4, MIN, MAX}) noIndex("edge(" + bad + ", 0, 9)", () -> x.edge(bad, 0, 9));
        for (int bad : new int[] {-1, 3, MIN, MAX}) noIndex("edge(0, " + bad + ", 0)", () -> x.edge(0, bad, 0));
        for (int bad : new int[] {-1, 4, MIN, MAX}) noArgument("edge(0, 0, " + bad + ")", () -> x.edge(0, 0, bad));
        due("nobody", x.edge(0, 0, 0), 0);
        x.border(1, 2, 2, 3);
        due("the head row's bottom is the body's top", x.edge(0, 1, 0), 32);
        x.border(1, 3, 0, 4);
        due("the foot's top is the last body row's bottom", x.edge(1, 1, 2), 42);
        due("not the first one's", x.edge(0, 1, 2), 0);
        x.border(3, 0, 0, 1);
        due("the table at the top of the head", x.edge(2, 0, 0), 14);
        due("at the bottom of the foot", x.edge(3, 0, 2), 14);
        due("at the left", x.edge(0, 0, 3), 14);
        due("at the right", x.edge(0, 2, 1), 14);
        due("not inside", x.edge(0, 1, 1), 0);
        x.border(2, 0, 3, 1);
        due("of the same weight that of a column", x.edge(0, 0, 3), 13);
        x.border(1, 2, 0, 1);
        due("or of a row", x.edge(2, 0, 0), 12);
        int c = x.cell(0, 0, 2, 2);
        due("within a cell", x.edge(0, 0, 1) + x.edge(1, 1, 0) + x.edge(0, 1, 2) + x.edge(1, 1, 3), 0);
        x.border(0, c, 1, 2);
        due("its right", x.edge(1, 1, 1), 21);
        due("the same from the other side", x.edge(1, 2, 3), 21);
        x.border(0, c, 0, 3);
        due("of the same weight that of the cell", x.edge(0, 0, 0), 31);
        due("not beside the cell", x.edge(0, 2, 0), 32);
        x.hide(1);
        due("its right at the column that it still shows", x.edge(0, 0, 1), 21);
        noState("a hidden column", () -> x.edge(0, 1, 0));
        noArgument("a bad side of a hidden column", () -> x.edge(0, 1, 4));
        x.border(2, 1, 1, 5);
        due("a hidden column's border counts for nothing", x.edge(2, 0, 1), 0);
        x.hide(2);
        due("the outside then", x.edge(2, 0, 1), 14);
        TablePages y = table(1, 2);
        figure(y, 0, 0, 200, 0);
        figure(y, 1, 0, 100, 0);
        y.border(1, 0, 0, 2);
        due("row 0 is first", y.edge(0, 0, 0), 22);
        y.sort(0, false);
        due("sorted: row 0 is below row 1", y.edge(1, 0, 2), 22);
        y.border(3, 0, 0, 5);
        due("and row 1 at the top", y.edge(1, 0, 0), 54);
    }

    /** Heads of 1 line, feet of 1 line, pages of 6: 4 lines of room on the first, 3 on the others. */
    private static TablePages narrow(int rows, boolean mayBreak) {
        TablePages x = table(1, 0);
        x.row(0, 0, false);
        x.row(2, 0, false);
        for (int i = 0; i < rows; i++) x.row(1, 0, mayBreak);
        x.setPaper(9, 6);
        return x;
    }

    private static void pages() {
        TablePages x = narrow(4, false);
        due("4 rows on a page", x.pages(), 1);
        x.row(1, 0, false);
        due("5 rows", x.pages(), 2);
        x.totalled(0);
        due("3 and the carried line; 2 and the total for the last one", x.pages(), 3);
        x.setPaper(9, 4);
        noState("carried in, carried out and continued leave nothing", () -> x.pages());
        x.totalled(0);
        due("without them", x.pages(), 4);
        x.setPaper(9, 3);
        noState("room for 1 and then for none", () -> x.pages());
        x.setPaper(9, 1);
        noState("heads and feet are too much", () -> x.pages());
        TablePages e = table(1, 0);
        e.row(0, 0, false);
        e.row(0, 0, false);
        e.setPaper(1, 1);
        due("without items one page all the same", e.pages(), 1);
        e.totalled(0);
        noState("with a total not", () -> e.pages());
        TablePages last = table(1, 2);
        last.setPaper(9, 4);
        last.totalled(0);
        due("2 rows and the total", last.pages(), 1);
        last.setPaper(9, 3);
        due("the last item needs no line that is carried out", last.pages(), 1);
        last.setPaper(9, 2);
        noState("1 row; then nothing is left", () -> last.pages());
    }

    private static void pageOf() {
        TablePages x = narrow(6, false);
        for (int bad : new int[] {-1, 8, MIN, MAX}) noIndex("pageOf(" + bad + ")", () -> x.pageOf(bad));
        noArgument("of a head", () -> x.pageOf(0));
        noArgument("of a foot", () -> x.pageOf(1));
        due("the fourth", x.pageOf(5), 0);
        due("the fifth", x.pageOf(6), 1);
        tall(x, 4, 2);
        due("the fourth behind one of 2 lines", x.pageOf(5), 1);
        x.setPaper(9, 2);
        noState("no room", () -> x.pageOf(5));
        noArgument("a head without room", () -> x.pageOf(0));
        TablePages y = narrow(2, true);
        tall(y, 2, 4);
        tall(y, 3, 7);
        due("a row that breaks begins where its first lines are", y.pageOf(3), 1);
        TablePages n = narrow(4, false);
        int c = n.cell(4, 0, 2, 1);
        n.note(c, 1);
        due("a note comes with the first row: 2 lines", n.pageOf(4), 0);
        due("and the last has no room", n.pageOf(5), 1);
        n.note(c, 2);
        due("3 lines", n.pageOf(4), 1);
        TablePages s = table(1, 3);
        for (int i = 0; i < 3; i++) figure(s, i, 0, 300 - 100 * i, 0);
        s.setPaper(9, 2);
        due("row 0 is first", s.pageOf(0), 0);
        s.sort(0, false);
        due("row 0 is last", s.pageOf(0), 1);
        due("row 2 is first", s.pageOf(2), 0);
    }

    private static void linesOn() {
        TablePages x = narrow(3, true);
        tall(x, 2, 2);
        tall(x, 3, 9);
        for (int bad : new int[] {-1, 5, MIN, MAX}) noIndex("linesOn(" + bad + ", -1)", () -> x.linesOn(bad, -1));
        noArgument("of a head", () -> x.linesOn(0, 0));
        noArgument("of page -1", () -> x.linesOn(2, -1));
        noArgument("of page MIN", () -> x.linesOn(2, MIN));
        due("2 on page 0", x.linesOn(2, 0), 2);
        due("2 of 9 on page 0", x.linesOn(3, 0), 2);
        due("3 on page 1", x.linesOn(3, 1), 3);
        due("3 on page 2", x.linesOn(3, 2), 3);
        due("1 on page 3", x.linesOn(3, 3), 1);
        due("the last on page 3", x.linesOn(4, 3), 1);
        due("behind all pages", x.linesOn(3, 4), 0);
        due("far behind", x.linesOn(3, MAX), 0);
        x.note(x.at(3, 0), 1);
        due("its note leaves 1 on page 0", x.linesOn(3, 0), 1);
        due("and comes but once", x.linesOn(3, 1), 3);
        x.note(x.at(3, 0), 2);
        due("no line is left beside its note", x.linesOn(3, 0), 0);
        due("so it begins on page 1", x.linesOn(3, 1), 1);
        TablePages y = narrow(2, false);
        tall(y, 2, 1);
        tall(y, 3, 5);
        due("one that may not break begins the next page", y.linesOn(3, 0), 0);
        due("and breaks if nothing is on it", y.linesOn(3, 1), 3);
        due("and goes on", y.linesOn(3, 2), 2);
        TablePages t = narrow(1, true);
        tall(t, 2, 4);
        t.totalled(0);
        due("the line that is carried out is kept free", t.linesOn(2, 0), 3);
        due("the rest, with the total behind it", t.linesOn(2, 1), 1);
        x.setPaper(9, 2);
        noState("no room", () -> x.linesOn(2, 0));
    }

    private static void shown() {
        TablePages x = table(2, 2);
        x.row(0, 0, false);
        int head = x.cell(2, 0, 1, 1);
        int both = x.cell(0, 0, 2, 1);
        for (int i = 0; i < 5; i++) x.word(both, 9, 0);
        int one = x.cell(0, 1, 1, 1);
        for (int i = 0; i < 4; i++) x.word(one, 9, 0);
        int other = words(x, 1, 1, 9, 9);
        x.setPaper(19, 4);
        for (int bad : new int[] {-1, 4, MIN, MAX}) noIndex("shown(" + bad + ", -1)", () -> x.shown(bad, -1));
        noArgument("of the head", () -> x.shown(head, 0));
        noArgument("of page -1", () -> x.shown(both, -1));
        due("rows of 4 and 2 lines", x.height(0) * 10 + x.height(1), 42);
        due("3 on page 0", x.shown(both, 0), 3);
        due("1 on page 1", x.shown(both, 1), 1);
        due("1 of 2 on page 2", x.shown(both, 2), 1);
        due("the other cell has 2 there", x.shown(other, 2), 2);
        due("one: 3", x.shown(one, 0), 3);
        due("one: 1", x.shown(one, 1), 1);
        due("one: 0", x.shown(one, 2), 0);
        due("behind all", x.shown(one, MAX), 0);
        x.setPaper(18, 4);
        x.setPaper(19, 4);
        due("the same again", x.shown(one, 0) * 10 + x.shown(one, 1), 31);
        x.hide(0);
        due("out", x.shown(both, 0), 0);
        x.setPaper(19, 2);
        noState("no room", () -> x.shown(one, 0));
        noArgument("of page -1 without room", () -> x.shown(one, -1));
    }

    private static void used() {
        TablePages x = narrow(5, false);
        for (int bad : new int[] {-1, 2, MIN, MAX}) noArgument("used(" + bad + ")", () -> x.used(bad));
        due("head, foot and 4", x.used(0), 6);
        due("head, foot, continued and 1", x.used(1), 4);
        x.totalled(0);
        due("head, foot, 3 and carried out", x.used(0), 6);
        due("head, foot, continued, carried in, 1 and carried out", x.used(1), 6);
        due("head, foot, continued, carried in, 1 and the total", x.used(2), 6);
        x.setPaper(9, 30);
        due("all on one", x.used(0), 8);
        x.note(x.cell(2, 0, 1, 1), 3);
        due("with notes", x.used(0), 11);
        x.notesAtEnd();
        due("with notes at the end", x.used(0), 11);
        TablePages g = table(1, 0);
        int[] groups = {1, 1, 2, 0, 0, 3, 1};
        for (int group : groups) g.row(1, group, false);
        g.totalled(0);
        due("7 rows, 4 subtotals, 1 total", g.used(0), 12);
        g.totalled(0);
        due("rows alone", g.used(0), 7);
        x.setPaper(9, 1);
        noState("no room", () -> x.used(0));
        noState("no room, no page", () -> x.used(-1));
    }

    private static void notesOn() {
        TablePages x = narrow(4, false);
        int a = x.cell(2, 0, 1, 1), b = x.cell(3, 0, 3, 1);
        x.note(a, 1);
        x.note(b, 2);
        for (int bad : new int[] {-1, 3, MIN, MAX}) noArgument("notesOn(" + bad + ")", () -> x.notesOn(bad));
        due("the first note", x.notesOn(0), 1);
        due("the second comes with its first row", x.notesOn(1), 2);
        due("which is on page 1", x.pageOf(3), 1);
        x.notesAtEnd();
        due("at the end none is on page 0", x.notesOn(0), 0);
        due("all are on page 1", x.notesOn(1), 3);
        x.note(a, 3);
        due("they break", x.notesOn(1), 3);
        due("and go on", x.notesOn(2), 2);
        x.setPaper(9, 1);
        noState("no room", () -> x.notesOn(0));
        TablePages y = narrow(1, true);
        y.note(tall(y, 2, 6), 2);
        due("a row that breaks has its notes at once", y.notesOn(0), 2);
        due("and 2 lines", y.linesOn(2, 0), 2);
        due("then no more", y.notesOn(1), 0);
    }

    private static void look() {
        TablePages x = narrow(5, false);
        due("never looked at", x.look(), 2);
        due("nothing is other", x.look(), 0);
        x.border(3, 0, 0, 1);
        figure(x, 3, 0, 100, 0);
        due("figures are not looked at", x.look(), 0);
        x.totalled(0);
        due("carried lines and the total", x.look(), 3);
        x.figure(0, 200, 0);
        due("what is carried is other on all pages", x.look(), 3);
        x.figure(0, 100, 0);
        figure(x, 5, 0, 700, 0);
        x.look();
        x.figure(1, 800, 0);
        due("row 5 begins on page 1: what is carried into page 0 and out of it is as it was", x.look(), 2);
        x.notesAtEnd();
        due("without notes", x.look(), 0);
        x.notesAtEnd();
        x.row(1, 0, false);
        due("the last page has another row", x.look(), 2);
        x.setPaper(9, 3);
        due("it cannot be set: all pages are gone", x.look(), 4);
        due("and are no more", x.look(), 0);
        x.setPaper(9, 30);
        due("one page comes", x.look(), 1);
        x.totalled(0);
        due("no total any more", x.look(), 1);
        x.note(0, 2);
        due("a note", x.look(), 1);
        x.note(1, 2);
        x.note(0, 0);
        due("another note of as many lines", x.look(), 0);
        due("a new object", new TablePages().look(), 1);
        TablePages e = narrow(1, false);
        e.setPaper(9, 2);
        due("one that cannot be set has no pages", e.look(), 0);
        TablePages w = table(1, 4);
        w.totalled(0);
        w.setPaper(9, 4);
        figure(w, 0, 0, 100, 0);
        figure(w, 3, 0, 200, 0);
        due("3 rows; 1 row and the total", w.look(), 2);
        w.figure(0, 200, 0);
        w.figure(1, 100, 0);
        due("page 1 has 200 carried in, but 300 out as before", w.look(), 2);
        w.totalled(0);
        due("4 rows on one page", w.look(), 2);
        TablePages b = narrow(1, true);
        tall(b, 2, 6);
        due("4 and 2", b.look(), 2);
        b.setPaper(9, 5);
        due("3 and 2 and 1: page 0 has one line fewer", b.look(), 3);
        TablePages y = narrow(6, false);
        for (int i = 0; i < 6; i++) figure(y, 2 + i, 0, 100 * (i < 4 ? i : 9 - i), 0);
        y.look();
        due("the last two change their places", y.sort(0, false), 2);
        due("both are on page 1", y.look(), 1);
        y.sort(0, true);
        due("all pages have other rows", y.look(), 2);
        TablePages z = narrow(3, true);
        tall(z, 2, 6);
        z.look();
        tall(z, 3, 1);
        due("as many lines", z.look(), 0);
        z.word(0, 9, 0);
        due("one line more on page 1", z.look(), 2);
    }

    private static void total() {
        TablePages x = table(2, 3);
        x.row(0, 0, false);
        x.row(2, 0, false);
        for (int bad : new int[] {-1, 2, MIN, MAX}) noIndex("total(" + bad + ")", () -> x.total(bad));
        due("nothing", x.total(0), 0);
        figure(x, 0, 0, 150, 2);
        figure(x, 2, 0, -1000, 0);
        figure(x, 3, 0, 70000, 0);
        figure(x, 4, 0, 70000, 0);
        figure(x, 1, 1, 5, 2);
        due("the body's alone", x.total(0), -850);
        due("the other column", x.total(1), 5);
        x.hide(1);
        due("hidden", x.total(1), 0);
        x.totalled(0);
        due("totalled or not", x.total(0), -850);
    }

    private static void subtotal() {
        TablePages x = table(2, 0);
        int[] groups = {1, 1, 0, 2, 1, 1, 1};
        for (int i = 0; i < groups.length; i++) {
            x.row(1, groups[i], false);
            figure(x, i, 0, 100 << i, 0);
        }
        x.row(0, 1, false);
        for (int bad : new int[] {-1, 8, MIN, MAX}) noIndex("subtotal(" + bad + ", 0)", () -> x.subtotal(bad, 0));
        for (int bad : new int[] {-1, 2, MIN, MAX}) noIndex("subtotal(7, " + bad + ")", () -> x.subtotal(7, bad));
        noArgument("of a head", () -> x.subtotal(7, 0));
        due("a run goes on", x.subtotal(0, 0), 0);
        due("the first run", x.subtotal(1, 0), 300);
        due("group 0", x.subtotal(2, 0), 0);
        due("a run of one", x.subtotal(3, 0), 800);
        due("within the last", x.subtotal(5, 0), 0);
        due("the last", x.subtotal(6, 0), 1600 + 3200 + 6400);
        due("a column without figures", x.subtotal(6, 1), 0);
        x.sort(0, true);
        due("turned round: row 4 ends the run", x.subtotal(4, 0), 1600 + 3200 + 6400);
        due("row 6 begins it", x.subtotal(6, 0), 0);
        due("row 0 ends the last", x.subtotal(0, 0), 300);
        x.hide(0);
        due("hidden", x.subtotal(0, 0), 0);
    }

    private static void carried(boolean byCells) {
        TablePages x = narrow(5, false);
        for (int i = 0; i < 5; i++) figure(x, 2 + i, 0, i == 1 ? -300 : 1000 * i + 5, i == 1 ? 0 : 2);
        figure(x, 0, 0, 99900, 0);
        noIndex("of no column", () -> carriedOf(x, 0, 1, byCells));
        noIndex("of column -1 and no page", () -> carriedOf(x, 9, -1, byCells));
        noArgument("of page -1", () -> carriedOf(x, -1, 0, byCells));
        noArgument("of page 2", () -> carriedOf(x, 2, 0, byCells));
        noArgument("of page MAX", () -> carriedOf(x, MAX, 0, byCells));
        due("not totalled: 4 rows", carriedOf(x, 0, 0, byCells), 5 - 300 + 2005 + 3005);
        due("the last page", carriedOf(x, 1, 0, byCells), 5 - 300 + 2005 + 3005 + 4005);
        x.totalled(0);
        due("totalled: 3 rows", carriedOf(x, 0, 0, byCells), 5 - 300 + 2005);
        due("then 1", carriedOf(x, 1, 0, byCells), 5 - 300 + 2005 + 3005);
        due("then all", carriedOf(x, 2, 0, byCells), x.total(0));
        x.sort(0, true);
        due("sorted", carriedOf(x, 0, 0, byCells), 4005 + 3005 + 2005);
        x.setPaper(9, 2);
        noState("no room", () -> carriedOf(x, 0, 0, byCells));
        noState("no room, no page", () -> carriedOf(x, -1, 0, byCells));
        noIndex("no room, no column", () -> carriedOf(x, 0, 7, byCells));
        TablePages y = table(2, 2);
        y.setPaper(60, 3);
        y.cell(0, 0, 2, 1);
        y.hide(1);
        y.hide(1);
        figure(y, 0, 1, 100, 0);
        due("a figure stands in its row's first line", carriedOf(y, 0, 1, byCells), 100);
        y.hide(1);
        due("hidden", carriedOf(y, 0, 1, byCells), 0);
        TablePages z = table(2, 0);
        z.row(1, 0, true);
        z.row(1, 0, true);
        tall(z, 0, 5);
        figure(z, 0, 1, 700, 0);
        figure(z, 1, 1, 7000, 0);
        z.setPaper(12, 4);
        due("of rows that begin on it", carriedOf(z, 0, 1, byCells), 700);
        due("row 1 begins on page 1", carriedOf(z, 1, 1, byCells), 7700);
    }

    private static int carriedOf(TablePages x, int page, int column, boolean byCells) {
        return byCells ? x.carriedByCells(page, column) : x.carried(page, column);
    }

    public static void main(String[] args) {
        Call[] tests = {PromisesTest::newObject, PromisesTest::column, PromisesTest::row, PromisesTest::cell,
            PromisesTest::word, PromisesTest::figure, PromisesTest::empty, PromisesTest::note, PromisesTest::at,
            PromisesTest::setPaper, PromisesTest::notesAtEnd, PromisesTest::totalled, PromisesTest::hide,
            PromisesTest::sort, PromisesTest::least, PromisesTest::most, PromisesTest::width, PromisesTest::over,
            PromisesTest::point, PromisesTest::begins, PromisesTest::lines, () -> height(false), () -> height(true),
            PromisesTest::tableHeight, PromisesTest::leastHeight, PromisesTest::border, PromisesTest::edge,
            PromisesTest::pages, PromisesTest::pageOf, PromisesTest::linesOn, PromisesTest::shown, PromisesTest::used,
            PromisesTest::notesOn, PromisesTest::look, PromisesTest::total, PromisesTest::subtotal,
            () -> carried(false), () -> carried(true)};
        for (int i = 0; i < tests.length; i++) {
            promise = "promise " + (i + 1);
            tests[i].run();
        }
        System.out.println(checks + " checks of " + tests.length + " promises, " + wrong + " wrong");
        if (wrong != 0) System.exit(1);
    }
}
