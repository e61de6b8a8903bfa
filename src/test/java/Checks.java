import java.util.IdentityHashMap;
import java.util.Map;
import java.util.Objects;
import java.util.function.Supplier;

/** What the tests of the edges share: checks by sentence, small tables, and all that an object answers. */
final class Checks {
    interface Make {
        TablePages make();
    }

    interface Call {
        void on(TablePages x);
    }

    interface Test {
        void run();
    }

    static final int MIN = Integer.MIN_VALUE;
    static final int MAX = Integer.MAX_VALUE;
    static final Class<?> INDEX = IndexOutOfBoundsException.class;
    static final Class<?> ARGUMENT = IllegalArgumentException.class;
    static final Class<?> STATE = IllegalStateException.class;

    private static final Map<Make, String> UNTOUCHED = new IdentityHashMap<>();
    private static int sentences = 0;
    private static int checks = 0;
    private static int wrong = 0;
    private static String sentence = "";

    private Checks() {
    }

    /** A sentence of the document, or the part of one that names an edge, and its own test. */
    static void holds(String words, Test test) {
        sentence = words;
        sentences++;
        try {
            test.run();
        } catch (RuntimeException e) {
            tell("threw " + e + " at " + (e.getStackTrace().length > 0 ? e.getStackTrace()[0] : "?"));
        }
    }

    private static void tell(String what) {
        wrong++;
        System.out.println("\"" + sentence + "\": " + what);
    }

    static void due(String what, Object got, Object want) {
        checks++;
        if (!Objects.equals(got, want)) tell(what + " answered " + got + ", due is " + want);
    }

    static void end() {
        System.out.println(checks + " checks of " + sentences + " sentences, " + wrong + " wrong");
        if (wrong != 0) System.exit(1);
    }

    /** The call throws this exception, by a throw of the class's own. */
    static void refused(TablePages x, Class<?> by, String what, Call call) {
        checks++;
        try {
            call.on(x);
        } catch (RuntimeException e) {
            boolean isOwn = e.getStackTrace().length > 0
                && e.getStackTrace()[0].getClassName().startsWith("TablePages");
            if (e.getClass() != by || !isOwn) tell(what + " threw " + e + ", due is " + by.getSimpleName());
            return;
        }
        tell(what + " threw nothing, due is " + by.getSimpleName());
    }

    /** The call throws this exception, and an object to which it was put answers all as one to which it was not. */
    static void changesNothing(Make make, Class<?> by, String what, Call call) {
        refused(make.make(), by, what, call);
        String untouched = UNTOUCHED.computeIfAbsent(make, m -> everything(m, x -> { }));
        due(what + ": all answers behind it are as if it had not been", everything(make, call), untouched);
    }

    /** A change counts as much for an object that was asked for all ahead of it as for one that was not. */
    static void seen(Make make, String what, Call change) {
        String unasked = everything(make, change);
        String asked = everything(make, x -> {
            answersOfColumns(x);
            answersOfPages(x);
            change.on(x);
        });
        // An object that was asked has been looked at, so the answers of look() are left out.
        due(what + ": behind it all answers as if they had not been asked for ahead of it", withoutLook(asked),
            withoutLook(unasked));
    }

    private static String withoutLook(String answers) {
        return answers.replaceAll("look \\w+", "");
    }

    private static String everything(Make make, Call first) {
        StringBuilder all = new StringBuilder();
        for (int group = 0; group < 12; group++) {
            // Each group of answers has an object of its own, so that none is used for more than 512 calls.
            TablePages x = make.make();
            answer(() -> {
                first.on(x);
                return "";
            });
            all.append('\n').append(answers(x, group));
        }
        return all.toString();
    }

    private static String answer(Supplier<Object> call) {
        try {
            return call.get() + " ";
        } catch (IndexOutOfBoundsException | IllegalArgumentException | IllegalStateException e) {
            return e.getClass().getSimpleName() + " ";
        }
    }

    private static String answers(TablePages x, int group) {
        switch (group) {
            case 0: return answersOfColumns(x);
            case 1: return answersOfRows(x);
            case 2: return answersOfCells(x);
            case 3: return answersOfPages(x);
            case 4: return shownLines(x);
            case 5: return answersOfSums(x);
            case 6: return edges(x);
            case 7: return weights(x);
            case 8: return places(x);
            case 9: return contents(x);
            case 10: return settings(x);
            default: return growth(x);
        }
    }

    private static String answersOfColumns(TablePages x) {
        StringBuilder s = new StringBuilder();
        for (int i = 0; i < 7; i++) {
            int c = i;
            s.append(answer(() -> x.least(c))).append(answer(() -> x.most(c))).append(answer(() -> x.width(c)));
            s.append(answer(() -> x.total(c)));
        }
        s.append(answer(x::over)).append(answer(x::tableHeight)).append(answer(x::leastHeight));
        s.append(answer(x::pages)).append("look ").append(answer(x::look));
        return s.append("look ").append(answer(x::look)).toString();
    }

    private static String answersOfRows(TablePages x) {
        StringBuilder s = new StringBuilder();
        for (int i = 0; i < 30; i++) {
            int r = i;
            s.append(answer(() -> x.height(r))).append(answer(() -> x.heightByCells(r))).append(answer(() -> x.pageOf(r)));
        }
        return s.toString();
    }

    private static String answersOfCells(TablePages x) {
        StringBuilder s = new StringBuilder();
        for (int i = 0; i < 101; i++) {
            int c = i;
            s.append(answer(() -> x.lines(c)));
            if (i < 30) s.append(answer(() -> x.point(c))).append(answer(() -> x.begins(c)));
        }
        return s.toString();
    }

    private static String answersOfPages(TablePages x) {
        StringBuilder s = new StringBuilder();
        for (int i = 0; i < 6; i++) {
            int page = i;
            s.append(answer(() -> x.used(page))).append(answer(() -> x.notesOn(page)));
            for (int j = 0; j < 9; j++) {
                int r = j;
                s.append(answer(() -> x.linesOn(r, page)));
            }
            for (int j = 0; j < 6; j++) {
                int c = j;
                s.append(answer(() -> x.carried(page, c))).append(answer(() -> x.carriedByCells(page, c)));
            }
        }
        return s.toString();
    }

    private static String shownLines(TablePages x) {
        StringBuilder s = new StringBuilder();
        for (int i = 0; i < 6; i++) {
            for (int j = 0; j < 14; j++) {
                int page = i, c = j;
                s.append(answer(() -> x.shown(c, page)));
            }
        }
        return s.toString();
    }

    private static String answersOfSums(TablePages x) {
        StringBuilder s = new StringBuilder();
        for (int i = 0; i < 30; i++) {
            for (int j = 0; j < 6; j++) {
                int r = i, c = j;
                s.append(answer(() -> x.subtotal(r, c)));
            }
        }
        return s.toString();
    }

    private static String edges(TablePages x) {
        StringBuilder s = new StringBuilder();
        for (int i = 0; i < 8 * 6 * 4; i++) {
            int r = i / 24, c = i / 4 % 6, side = i % 4;
            s.append(answer(() -> x.edge(r, c, side)));
        }
        return s.toString();
    }

    private static String weights(TablePages x) {
        StringBuilder s = new StringBuilder();
        for (int i = 0; i < 12 * 4; i++) {
            int number = i / 4, side = i % 4;
            for (int k = 0; k < 3; k++) {
                int kind = k;
                s.append(answer(() -> x.border(kind, number, side, 0)));
            }
        }
        return s.append(answer(() -> x.border(3, 0, 0, 0))).toString();
    }

    private static String places(TablePages x) {
        StringBuilder s = new StringBuilder();
        for (int i = 0; i < 30 * 6; i++) {
            int r = i / 6, c = i % 6;
            s.append(answer(() -> x.at(r, c)));
        }
        return s.toString();
    }

    private static String contents(TablePages x) {
        StringBuilder s = new StringBuilder();
        for (int i = 0; i < 40; i++) {
            int c = i;
            s.append(answer(() -> x.note(c, 0))).append(answer(() -> x.word(c, 1, 0))).append(answer(() -> x.empty(c)));
        }
        return s.toString();
    }

    private static String settings(TablePages x) {
        StringBuilder s = new StringBuilder();
        s.append(answer(x::notesAtEnd)).append(answer(x::pages));
        for (int i = 0; i < 6; i++) {
            int c = i;
            s.append(answer(() -> x.sort(c, false))).append(answer(() -> x.sort(c, true)));
        }
        for (int i = 0; i < 6; i++) {
            int c = i;
            s.append(answer(() -> x.totalled(c))).append(answer(() -> x.used(0))).append(answer(() -> x.hide(c)));
        }
        return s.toString();
    }

    private static String growth(TablePages x) {
        StringBuilder s = new StringBuilder();
        s.append(answer(() -> x.column(0, 1)));
        for (int i = 0; i < 3; i++) {
            int part = i;
            s.append(answer(() -> x.row(part, 0, false)));
        }
        for (int i = 0; i < 10 * 6; i++) {
            int r = i / 6, c = i % 6;
            s.append(answer(() -> x.cell(r, c, 1, 1)));
        }
        return s.append(answer(x::pages)).append(answer(x::tableHeight)).toString();
    }

    // ---- small tables

    /** Columns of content, and body rows without a group that may not break. */
    static TablePages content(int columns, int rows) {
        TablePages x = new TablePages();
        for (int i = 0; i < columns; i++) x.column(0, 1);
        return body(x, rows);
    }

    static TablePages body(TablePages x, int rows) {
        for (int i = 0; i < rows; i++) x.row(1, 0, false);
        return x;
    }

    /** Columns of these kinds and values, without rows. */
    static TablePages columns(int... kindsAndValues) {
        TablePages x = new TablePages();
        for (int i = 0; i < kindsAndValues.length; i += 2) x.column(kindsAndValues[i], kindsAndValues[i + 1]);
        return x;
    }

    static int words(TablePages x, int row, int column, int... lengths) {
        int cell = x.cell(row, column, 1, 1);
        for (int length : lengths) x.word(cell, length, 0);
        return cell;
    }

    static int wide(TablePages x, int row, int column, int columns, int... lengths) {
        int cell = x.cell(row, column, 1, columns);
        for (int length : lengths) x.word(cell, length, 0);
        return cell;
    }

    static int figure(TablePages x, int row, int column, int hundredths, int decimals) {
        int cell = x.cell(row, column, 1, 1);
        x.figure(cell, hundredths, decimals);
        return cell;
    }

    /** A cell of so many lines, in a column of 9. */
    static int tall(TablePages x, int row, int column, int rows, int lines) {
        int cell = x.cell(row, column, rows, 1);
        for (int i = 0; i < lines; i++) x.word(cell, 9, 0);
        return cell;
    }

    /** Pages of so many lines; one column of 9, one of content, and body rows of these heights, those below 0 may break. */
    static TablePages sheet(int lines, int... heights) {
        TablePages x = columns(1, 9, 0, 1);
        x.setPaper(60, lines);
        for (int height : heights) {
            int row = x.row(1, 0, height < 0);
            if (height != 1) tall(x, row, 0, 1, Math.abs(height));
        }
        return x;
    }

    /** The lines of a row on each page. */
    static String spread(TablePages x, int row) {
        StringBuilder s = new StringBuilder();
        for (int page = 0; page < x.pages(); page++) s.append(page > 0 ? " " : "").append(x.linesOn(row, page));
        return s.toString();
    }

    /** The lines of a cell on each page. */
    static String shown(TablePages x, int cell) {
        StringBuilder s = new StringBuilder();
        for (int page = 0; page < x.pages(); page++) s.append(page > 0 ? " " : "").append(x.shown(cell, page));
        return s.toString();
    }

    static String used(TablePages x) {
        StringBuilder s = new StringBuilder();
        for (int page = 0; page < x.pages(); page++) s.append(page > 0 ? " " : "").append(x.used(page));
        return s.toString();
    }

    static String notes(TablePages x) {
        StringBuilder s = new StringBuilder();
        for (int page = 0; page < x.pages(); page++) s.append(page > 0 ? " " : "").append(x.notesOn(page));
        return s.toString();
    }

    static String widths(TablePages x, int columns) {
        StringBuilder s = new StringBuilder();
        for (int i = 0; i < columns; i++) s.append(i > 0 ? " " : "").append(x.width(i));
        return s.toString();
    }

    static String leasts(TablePages x, int columns) {
        StringBuilder s = new StringBuilder();
        for (int i = 0; i < columns; i++) s.append(i > 0 ? " " : "").append(x.least(i));
        return s.toString();
    }

    static String mosts(TablePages x, int columns) {
        StringBuilder s = new StringBuilder();
        for (int i = 0; i < columns; i++) s.append(i > 0 ? " " : "").append(x.most(i));
        return s.toString();
    }

    static String heights(TablePages x, int rows) {
        StringBuilder s = new StringBuilder();
        for (int i = 0; i < rows; i++) {
            s.append(i > 0 ? " " : "").append(x.height(i));
            due("height of row " + i + " cell by cell", x.heightByCells(i), x.height(i));
        }
        return s.toString();
    }
}
