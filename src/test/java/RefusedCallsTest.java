import java.lang.reflect.Method;
import java.lang.reflect.Modifier;
import java.util.Set;
import java.util.TreeSet;

/** "When a call throws, nothing has changed": each call of the face, with each exception of its throws clause. */
public final class RefusedCallsTest {
    private static final int MIN = Checks.MIN;
    private static final int MAX = Checks.MAX;
    private static final Class<?> INDEX = Checks.INDEX;
    private static final Class<?> ARGUMENT = Checks.ARGUMENT;
    private static final Class<?> STATE = Checks.STATE;

    // Body rows out of order, so that a sort would be seen; all were looked at, and changed since.
    private static final Checks.Make LOOSE = RefusedCallsTest::loose;
    private static final Checks.Make SPANNED = () -> {
        TablePages x = loose();
        x.cell(7, 4, 2, 1);
        return x;
    };
    private static final Checks.Make NO_ROOM = () -> {
        TablePages x = loose();
        x.setPaper(37, 5);
        return x;
    };
    private static final Checks.Make ONE_SHOWN = () -> {
        TablePages x = Checks.columns(2, 60, 0, 1, 0, 1);
        Checks.body(x, 3);
        for (int i = 0; i < 3; i++) Checks.figure(x, i, 0, 300 - 100 * (i % 2), 0);
        x.note(0, 1);
        x.hide(1);
        x.hide(2);
        x.setPaper(33, 2);
        x.look();
        x.totalled(0);
        return x;
    };
    private static final Checks.Make NO_COLUMN = TablePages::new;
    private static final Checks.Make SIX_COLUMNS = () -> Checks.columns(0, 1, 1, 5, 2, 20, 0, 1, 1, 9, 2, 30);
    private static final Checks.Make HUNDRED_CELLS = () -> {
        TablePages x = Checks.columns(0, 1, 2, 40, 0, 1, 0, 1, 0, 1);
        Checks.body(x, 24);
        for (int i = 0; i < 100; i++) Checks.figure(x, i / 5, i % 5, i * 7 % 30 * 100, 0);
        x.setPaper(50, 9);
        x.look();
        x.totalled(1);
        return x;
    };

    private static final Set<String> TESTED = new TreeSet<>();

    /** Rows 0 to 2 are heads, 3 and 4 feet, 5 to 9 body rows; column 1 is hidden, four columns of content are shown. */
    private static TablePages loose() {
        TablePages x = Checks.columns(0, 1, 1, 7, 2, 20, 0, 1, 0, 1, 0, 1);
        for (int i = 0; i < 3; i++) x.row(0, 0, false);
        for (int i = 0; i < 2; i++) x.row(2, 0, false);
        for (int i = 0; i < 5; i++) x.row(1, i < 2 ? 4 : i < 3 ? 0 : 3, i % 2 == 0);
        Checks.wide(x, 0, 0, 3, 9, 4);
        for (int i = 0; i < 5; i++) Checks.figure(x, 5 + i, 2, (i * 3 % 5 - 2) * 1250, 2);
        x.word(x.cell(5, 0, 1, 1), 7, 3);
        for (int i = 0; i < 11; i++) x.word(6, 5, 2);
        Checks.words(x, 6, 0, 6, 6);
        Checks.words(x, 7, 1, 3);
        Checks.figure(x, 8, 3, 700, 0);
        x.note(1, 2);
        x.note(6, 1);
        x.border(0, 1, 1, 2);
        x.border(1, 6, 0, 3);
        x.border(2, 3, 3, 4);
        x.border(3, 0, 0, 1);
        x.hide(1);
        x.setPaper(37, 13);
        x.look();
        x.totalled(2);
        return x;
    }

    private static void refused(String name, Class<?> by, Checks.Make make, String what, Checks.Call call) {
        TESTED.add(name + " " + by.getSimpleName());
        Checks.changesNothing(make, by, name + ", " + what, call);
    }

    private static void making() {
        refused("column", ARGUMENT, LOOSE, "kind 3", x -> x.column(3, 1));
        refused("column", ARGUMENT, SIX_COLUMNS, "value 61", x -> x.column(0, 61));
        refused("column", ARGUMENT, NO_COLUMN, "value 0", x -> x.column(2, 0));
        refused("column", STATE, LOOSE, "there is a row", x -> x.column(0, 1));
        refused("column", STATE, SIX_COLUMNS, "there are 6", x -> x.column(2, 60));
        refused("row", ARGUMENT, LOOSE, "part 3", x -> x.row(3, 0, true));
        refused("row", ARGUMENT, LOOSE, "part -1, that of the first row less 1", x -> x.row(-1, 0, true));
        refused("row", ARGUMENT, LOOSE, "group 10 of a body row", x -> x.row(1, 10, true));
        refused("row", ARGUMENT, SIX_COLUMNS, "group -1 of a foot row", x -> x.row(2, -1, false));
        refused("row", STATE, NO_COLUMN, "no column", x -> x.row(1, 0, true));
        refused("row", STATE, LOOSE, "3 heads", x -> x.row(0, 0, true));
        refused("row", STATE, LOOSE, "2 feet", x -> x.row(2, 9, true));
        refused("row", STATE, HUNDRED_CELLS, "24 body rows", x -> x.row(1, 1, true));
        refused("cell", INDEX, LOOSE, "row 10", x -> x.cell(10, 0, 1, 1));
        refused("cell", INDEX, LOOSE, "column 6", x -> x.cell(9, 6, 1, 1));
        refused("cell", INDEX, HUNDRED_CELLS, "column -1", x -> x.cell(23, -1, 5, 7));
        refused("cell", ARGUMENT, LOOSE, "5 rows", x -> x.cell(5, 4, 5, 1));
        refused("cell", ARGUMENT, LOOSE, "7 columns", x -> x.cell(9, 0, 1, 7));
        refused("cell", ARGUMENT, LOOSE, "no rows", x -> x.cell(9, 0, 0, 1));
        refused("cell", STATE, HUNDRED_CELLS, "there are 100", x -> x.cell(23, 0, 1, 1));
        refused("cell", STATE, LOOSE, "the part has not so many rows", x -> x.cell(8, 4, 3, 1));
        refused("cell", STATE, LOOSE, "the table has not so many columns", x -> x.cell(9, 4, 1, 3));
        refused("cell", STATE, LOOSE, "its last place is of another cell", x -> x.cell(7, 3, 2, 1));
        refused("cell", STATE, LOOSE, "a place of a hidden column is of another cell", x -> x.cell(6, 1, 2, 1));
        refused("at", INDEX, LOOSE, "row 10", x -> x.at(10, 0));
        refused("at", INDEX, LOOSE, "column 6", x -> x.at(0, 6));
    }

    private static void filling() {
        refused("word", INDEX, LOOSE, "cell 10", x -> x.word(10, 1, 0));
        refused("word", INDEX, LOOSE, "cell -1", x -> x.word(-1, 1, 0));
        refused("word", ARGUMENT, LOOSE, "length 21", x -> x.word(0, 21, 0));
        refused("word", ARGUMENT, LOOSE, "a cut behind all letters", x -> x.word(0, 5, 5));
        refused("word", ARGUMENT, LOOSE, "length 0", x -> x.word(8, 0, 0));
        refused("word", STATE, LOOSE, "a figure", x -> x.word(1, 1, 0));
        refused("word", STATE, LOOSE, "12 words", x -> x.word(6, 1, 0));
        refused("figure", INDEX, LOOSE, "cell 10", x -> x.figure(10, 100, 0));
        refused("figure", ARGUMENT, LOOSE, "1000001", x -> x.figure(1, 1000001, 2));
        refused("figure", ARGUMENT, LOOSE, "3 decimals", x -> x.figure(1, 100, 3));
        refused("figure", ARGUMENT, LOOSE, "150 without decimals", x -> x.figure(1, 150, 0));
        refused("figure", ARGUMENT, LOOSE, "155 with one", x -> x.figure(9, 155, 1));
        refused("figure", STATE, LOOSE, "words", x -> x.figure(6, 100, 0));
        refused("figure", STATE, SPANNED, "two rows", x -> x.figure(10, 100, 0));
        refused("empty", INDEX, LOOSE, "cell 10", x -> x.empty(10));
        refused("empty", INDEX, LOOSE, "cell MIN", x -> x.empty(MIN));
        refused("note", INDEX, LOOSE, "cell 10", x -> x.note(10, 3));
        refused("note", ARGUMENT, LOOSE, "4 lines", x -> x.note(1, 4));
        refused("note", ARGUMENT, LOOSE, "-1 lines", x -> x.note(1, -1));
        refused("note", STATE, LOOSE, "a cell of the head", x -> x.note(0, 1));
    }

    private static void settings() {
        refused("setPaper", ARGUMENT, LOOSE, "width 151", x -> x.setPaper(151, 30));
        refused("setPaper", ARGUMENT, LOOSE, "width 0", x -> x.setPaper(0, 30));
        refused("setPaper", ARGUMENT, LOOSE, "101 lines", x -> x.setPaper(60, 101));
        refused("setPaper", ARGUMENT, LOOSE, "no lines", x -> x.setPaper(60, 0));
        refused("totalled", INDEX, LOOSE, "column 6", x -> x.totalled(6));
        refused("totalled", INDEX, ONE_SHOWN, "column -1", x -> x.totalled(-1));
        refused("hide", INDEX, LOOSE, "column 6", x -> x.hide(6));
        refused("hide", INDEX, ONE_SHOWN, "column 3", x -> x.hide(3));
        refused("hide", STATE, ONE_SHOWN, "all would be hidden", x -> x.hide(0));
        refused("sort", INDEX, LOOSE, "column 6", x -> x.sort(6, true));
        refused("sort", INDEX, SPANNED, "column -1", x -> x.sort(-1, false));
        refused("sort", STATE, SPANNED, "a cell of two rows", x -> x.sort(2, false));
        refused("sort", STATE, SPANNED, "a cell of two rows, falling", x -> x.sort(2, true));
    }

    private static void widthsAndHeights() {
        refused("least", INDEX, LOOSE, "column 6", x -> x.least(6));
        refused("most", INDEX, LOOSE, "column -1", x -> x.most(-1));
        refused("width", INDEX, LOOSE, "column MAX", x -> x.width(MAX));
        refused("point", INDEX, LOOSE, "cell 10", x -> x.point(10));
        refused("point", STATE, LOOSE, "words", x -> x.point(6));
        refused("point", STATE, LOOSE, "out", x -> x.point(8));
        refused("begins", INDEX, LOOSE, "cell -1", x -> x.begins(-1));
        refused("begins", STATE, LOOSE, "words", x -> x.begins(0));
        refused("begins", STATE, LOOSE, "out", x -> x.begins(8));
        refused("lines", INDEX, LOOSE, "cell 10", x -> x.lines(10));
        refused("height", INDEX, LOOSE, "row 10", x -> x.height(10));
        refused("heightByCells", INDEX, LOOSE, "row -1", x -> x.heightByCells(-1));
        refused("leastHeight", STATE, LOOSE, "4 columns of content", TablePages::leastHeight);
        refused("leastHeight", STATE, HUNDRED_CELLS, "4 columns of content, 100 cells", TablePages::leastHeight);
    }

    private static void borders() {
        refused("border", ARGUMENT, LOOSE, "kind 4", x -> x.border(4, 0, 0, 5));
        refused("border", ARGUMENT, LOOSE, "side 4 of a cell", x -> x.border(0, 1, 4, 5));
        refused("border", ARGUMENT, LOOSE, "side 1 of a row", x -> x.border(1, 6, 1, 5));
        refused("border", ARGUMENT, LOOSE, "side 2 of a column", x -> x.border(2, 3, 2, 5));
        refused("border", ARGUMENT, LOOSE, "weight 6 of the table", x -> x.border(3, 0, 0, 6));
        refused("border", ARGUMENT, LOOSE, "weight -1 of no cell", x -> x.border(0, 10, 1, -1));
        refused("border", INDEX, LOOSE, "cell 10", x -> x.border(0, 10, 0, 5));
        refused("border", INDEX, LOOSE, "row 10", x -> x.border(1, 10, 0, 5));
        refused("border", INDEX, LOOSE, "column 6", x -> x.border(2, 6, 1, 5));
        refused("edge", INDEX, LOOSE, "row 10", x -> x.edge(10, 0, 0));
        refused("edge", INDEX, LOOSE, "column 6, side 4", x -> x.edge(5, 6, 4));
        refused("edge", ARGUMENT, LOOSE, "side 4", x -> x.edge(5, 0, 4));
        refused("edge", ARGUMENT, LOOSE, "side -1, hidden", x -> x.edge(5, 1, -1));
        refused("edge", STATE, LOOSE, "hidden", x -> x.edge(5, 1, 0));
    }

    private static void pages() {
        refused("pages", STATE, NO_ROOM, "no room", TablePages::pages);
        refused("pageOf", INDEX, LOOSE, "row 10", x -> x.pageOf(10));
        refused("pageOf", ARGUMENT, LOOSE, "a head row", x -> x.pageOf(2));
        refused("pageOf", ARGUMENT, NO_ROOM, "a foot row, no room", x -> x.pageOf(3));
        refused("pageOf", STATE, NO_ROOM, "no room", x -> x.pageOf(5));
        refused("linesOn", INDEX, LOOSE, "row 10", x -> x.linesOn(10, 0));
        refused("linesOn", ARGUMENT, LOOSE, "a foot row", x -> x.linesOn(4, 0));
        refused("linesOn", ARGUMENT, LOOSE, "page -1", x -> x.linesOn(5, -1));
        refused("linesOn", STATE, NO_ROOM, "no room", x -> x.linesOn(5, 0));
        refused("shown", INDEX, LOOSE, "cell 10", x -> x.shown(10, 0));
        refused("shown", ARGUMENT, LOOSE, "a cell of the head", x -> x.shown(0, 0));
        refused("shown", ARGUMENT, LOOSE, "page MIN", x -> x.shown(1, MIN));
        refused("shown", STATE, NO_ROOM, "no room", x -> x.shown(1, 0));
        refused("used", STATE, NO_ROOM, "no room, no such page", x -> x.used(-1));
        refused("used", ARGUMENT, LOOSE, "page 100", x -> x.used(100));
        refused("notesOn", STATE, NO_ROOM, "no room", x -> x.notesOn(0));
        refused("notesOn", ARGUMENT, LOOSE, "page -1", x -> x.notesOn(-1));
    }

    private static void sums() {
        refused("total", INDEX, LOOSE, "column 6", x -> x.total(6));
        refused("subtotal", INDEX, LOOSE, "row 10", x -> x.subtotal(10, 2));
        refused("subtotal", INDEX, LOOSE, "column 6 of a head row", x -> x.subtotal(0, 6));
        refused("subtotal", ARGUMENT, LOOSE, "a head row", x -> x.subtotal(0, 2));
        refused("carried", INDEX, NO_ROOM, "column 6, no room", x -> x.carried(0, 6));
        refused("carried", STATE, NO_ROOM, "no room, no such page", x -> x.carried(-1, 2));
        refused("carried", ARGUMENT, LOOSE, "page 100", x -> x.carried(100, 2));
        refused("carriedByCells", INDEX, LOOSE, "column -1", x -> x.carriedByCells(0, -1));
        refused("carriedByCells", STATE, NO_ROOM, "no room", x -> x.carriedByCells(0, 2));
        refused("carriedByCells", ARGUMENT, LOOSE, "page -1", x -> x.carriedByCells(-1, 2));
    }

    public static void main(String[] args) {
        Checks.holds("When a call throws, nothing has changed", () -> {
            making();
            filling();
            settings();
            widthsAndHeights();
            borders();
            pages();
            sums();
        });
        Checks.holds("each exception of each throws clause", () -> {
            for (Method m : TablePages.class.getDeclaredMethods()) {
                if (!Modifier.isPublic(m.getModifiers())) continue;
                for (Class<?> by : m.getExceptionTypes()) {
                    Checks.due(m.getName() + " throws " + by.getSimpleName() + " here",
                        TESTED.contains(m.getName() + " " + by.getSimpleName()), true);
                }
            }
        });
        Checks.end();
    }
}
