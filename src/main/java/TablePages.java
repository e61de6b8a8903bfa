import java.util.ArrayList;
import java.util.Arrays;

/**
 * A setter of tables that run over pages. Callers make columns, rows and cells, fill them, and ask;
 * widths, heights and pages are found anew when something was changed and is asked for.
 */
public final class TablePages {
    private static final int OF_CONTENT = 0;
    private static final int FIXED = 1;
    private static final int SHARE = 2;
    private static final int MOST_COLUMNS = 6;
    private static final int MOST_COLUMN_VALUE = 60;

    private static final int HEAD = 0;
    private static final int BODY = 1;
    private static final int FOOT = 2;
    private static final int[] MOST_ROWS_OF_PART = {3, 24, 2};
    private static final int MOST_BODY_ROWS = 24;
    private static final int MOST_ROWS = 29;
    private static final int MOST_GROUP = 9;

    private static final int MOST_CELLS = 100;
    private static final int MOST_ROW_SPAN = 4;
    private static final int MOST_COLUMN_SPAN = 6;
    private static final int MOST_WORDS = 12;
    private static final int MOST_WORD_LENGTH = 20;
    private static final int MOST_HUNDREDTHS = 1000000;
    private static final int MOST_DECIMALS = 2;
    private static final int MOST_NOTE_LINES = 3;

    private static final int FIRST_PAPER_WIDTH = 60;
    private static final int FIRST_PAGE_LINES = 30;
    private static final int MOST_PAPER_WIDTH = 150;
    private static final int MOST_PAGE_LINES = 100;

    private static final int TOP = 0;
    private static final int RIGHT = 1;
    private static final int BOTTOM = 2;
    private static final int LEFT = 3;
    private static final int SIDES = 4;
    private static final int MOST_WEIGHT = 5;
    private static final int OF_CELL = 0;
    private static final int OF_ROW = 1;
    private static final int OF_COLUMN = 2;
    private static final int OF_TABLE = 3;

    private static final int MOST_TRIED_COLUMNS = 3;
    private static final int MOST_EXTRA = 8;
    private static final int MOST_EXTRA_TOGETHER = MOST_TRIED_COLUMNS * MOST_EXTRA;

    private static final int NOTHING = -1;

    // A body row's item has the row's number; the others are told from it by what is added.
    private static final int SUBTOTAL_ITEM = 32;
    private static final int TOTAL_ITEM = 64;
    private static final int NOTES_ITEM = 65;
    private static final int MOST_ITEMS = 2 * MOST_BODY_ROWS + 2;

    // Every piece on a page has a line at least, and a word makes two lines at most: there are never
    // more pieces, nor pages, than the lines of all body rows, subtotals, the total and all notes.
    private static final int MOST_PIECES =
        MOST_BODY_ROWS * 2 * MOST_WORDS + MOST_BODY_ROWS + MOST_CELLS * MOST_NOTE_LINES + 4;

    private final Grid grid;
    private final Widths widths;
    private final Heights heights;
    private final Trial trial;
    private final Flow flow;
    private final Sheets sheets;
    private final Sheets sheetsLookedAt;
    private int paperWidth;
    private int pageLines;
    private boolean hasNotesAtEnd;
    private boolean isStale;

    public TablePages() {
        grid = new Grid();
        widths = new Widths(grid);
        heights = new Heights(grid);
        trial = new Trial(grid);
        sheets = new Sheets();
        sheetsLookedAt = new Sheets();
        flow = new Flow(grid, heights, sheets);
        paperWidth = FIRST_PAPER_WIDTH;
        pageLines = FIRST_PAGE_LINES;
        isStale = true;
    }

    // ---- columns, rows, cells

    public int column(int kind, int value) throws IllegalArgumentException, IllegalStateException {
        if (kind < OF_CONTENT || kind > SHARE || value < 1 || value > MOST_COLUMN_VALUE) {
            throw new IllegalArgumentException("kind or value is out of range");
        }
        if (grid.columns.size() >= MOST_COLUMNS || !grid.rows.isEmpty()) {
            throw new IllegalStateException("there are 6 columns, or there is a row");
        }
        isStale = true;
        return grid.addColumn(kind, value);
    }

    public int row(int part, int group, boolean mayBreak) throws IllegalArgumentException, IllegalStateException {
        if (part < HEAD || part > FOOT || group < 0 || group > MOST_GROUP) {
            throw new IllegalArgumentException("part or group is out of range");
        }
        if (grid.columns.isEmpty() || grid.isFull(part)) {
            throw new IllegalStateException("there is no column, or the part is full");
        }
        isStale = true;
        return grid.addRow(part, group, mayBreak);
    }

    public int cell(int row, int column, int rows, int columns)
            throws IndexOutOfBoundsException, IllegalArgumentException, IllegalStateException {
        requireRow(row);
        requireColumn(column);
        if (rows < 1 || rows > MOST_ROW_SPAN || columns < 1 || columns > MOST_COLUMN_SPAN) {
            throw new IllegalArgumentException("rows or columns is out of range");
        }
        Row first = grid.rows.get(row);
        if (grid.cells.size() >= MOST_CELLS || !grid.hasFreePlaces(first, column, rows, columns)) {
            throw new IllegalStateException("there are 100 cells, or no free places for it");
        }
        isStale = true;
        return grid.addCell(new Cell(first, column, rows, columns));
    }

    public int word(int cell, int length, int cut)
            throws IndexOutOfBoundsException, IllegalArgumentException, IllegalStateException {
        requireCell(cell);
        if (length < 1 || length > MOST_WORD_LENGTH || cut < 0 || cut > length - 1) {
            throw new IllegalArgumentException("length or cut is out of range");
        }
        Cell filled = grid.cells.get(cell);
        if (filled.hasFigure || filled.wordCount >= MOST_WORDS) {
            throw new IllegalStateException("the cell has a figure, or 12 words");
        }
        isStale = true;
        filled.addWord(length, cut);
        return filled.wordCount;
    }

    public void figure(int cell, int hundredths, int decimals)
            throws IndexOutOfBoundsException, IllegalArgumentException, IllegalStateException {
        requireCell(cell);
        if (!isFigure(hundredths, decimals)) {
            throw new IllegalArgumentException("hundredths or decimals is out of range, or they do not agree");
        }
        Cell filled = grid.cells.get(cell);
        if (filled.wordCount > 0 || filled.rowSpan > 1 || filled.columnSpan > 1) {
            throw new IllegalStateException("the cell has words, or spans several rows or columns");
        }
        isStale = true;
        filled.hasFigure = true;
        filled.hundredths = hundredths;
        filled.decimals = decimals;
    }

    public int empty(int cell) throws IndexOutOfBoundsException {
        requireCell(cell);
        isStale = true;
        Cell emptied = grid.cells.get(cell);
        int before = emptied.wordCount;
        emptied.wordCount = 0;
        emptied.hasFigure = false;
        return before;
    }

    public int note(int cell, int lines)
            throws IndexOutOfBoundsException, IllegalArgumentException, IllegalStateException {
        requireCell(cell);
        if (lines < 0 || lines > MOST_NOTE_LINES) {
            throw new IllegalArgumentException("lines is out of range");
        }
        Cell noted = grid.cells.get(cell);
        if (noted.firstRow.part != BODY) {
            throw new IllegalStateException("the cell begins in a head or foot row");
        }
        isStale = true;
        int before = noted.noteLines;
        noted.noteLines = lines;
        return before;
    }

    public int at(int row, int column) throws IndexOutOfBoundsException {
        requireRow(row);
        requireColumn(column);
        return grid.cellNumberAt(row, column);
    }

    // ---- settings

    public void setPaper(int width, int lines) throws IllegalArgumentException {
        if (width < 1 || width > MOST_PAPER_WIDTH || lines < 1 || lines > MOST_PAGE_LINES) {
            throw new IllegalArgumentException("width or lines is out of range");
        }
        isStale = true;
        paperWidth = width;
        pageLines = lines;
    }

    public boolean notesAtEnd() {
        isStale = true;
        hasNotesAtEnd = !hasNotesAtEnd;
        return hasNotesAtEnd;
    }

    public boolean totalled(int column) throws IndexOutOfBoundsException {
        requireColumn(column);
        isStale = true;
        Column changed = grid.columns.get(column);
        changed.isTotalled = !changed.isTotalled;
        return changed.isTotalled;
    }

    public boolean hide(int column) throws IndexOutOfBoundsException, IllegalStateException {
        requireColumn(column);
        if (grid.isShown(column) && grid.countShownColumns() == 1) {
            throw new IllegalStateException("all columns would be hidden");
        }
        isStale = true;
        return grid.hideOrShow(column);
    }

    public int sort(int column, boolean isFalling) throws IndexOutOfBoundsException, IllegalStateException {
        requireColumn(column);
        if (grid.hasBodyCellOfSeveralRows()) {
            throw new IllegalStateException("a cell of the body spans several rows");
        }
        isStale = true;
        grid.putBodyInOrder(column, isFalling);
        return grid.numberBodyAnew();
    }

    // ---- widths

    public int least(int column) throws IndexOutOfBoundsException {
        requireColumn(column);
        refresh();
        return widths.leastOf[column];
    }

    public int most(int column) throws IndexOutOfBoundsException {
        requireColumn(column);
        refresh();
        return widths.mostOf[column];
    }

    public int width(int column) throws IndexOutOfBoundsException {
        requireColumn(column);
        refresh();
        return widths.solvedOf[column];
    }

    public int over() {
        refresh();
        return Math.max(0, grid.widthTogether(widths.solvedOf) - paperWidth);
    }

    public int point(int cell) throws IndexOutOfBoundsException, IllegalStateException {
        requireCell(cell);
        Cell asked = grid.cells.get(cell);
        if (!asked.showsFigure()) {
            throw new IllegalStateException("the cell has no figure, or is out");
        }
        refresh();
        return widths.pointOf(asked.column);
    }

    public int begins(int cell) throws IndexOutOfBoundsException, IllegalStateException {
        requireCell(cell);
        Cell asked = grid.cells.get(cell);
        if (!asked.showsFigure()) {
            throw new IllegalStateException("the cell has no figure, or is out");
        }
        refresh();
        return widths.pointOf(asked.column) - leftPart(asked.hundredths);
    }

    // ---- heights

    public int lines(int cell) throws IndexOutOfBoundsException {
        requireCell(cell);
        refresh();
        return heights.linesOf[cell];
    }

    public int height(int row) throws IndexOutOfBoundsException {
        requireRow(row);
        refresh();
        return heights.heightOf[row];
    }

    public int heightByCells(int row) throws IndexOutOfBoundsException {
        requireRow(row);
        return trial.heightFromNothing(row, paperWidth);
    }

    public int tableHeight() {
        refresh();
        return heights.heightOfPart(BODY);
    }

    public int leastHeight() throws IllegalStateException {
        if (grid.countContentColumns() > MOST_TRIED_COLUMNS) {
            throw new IllegalStateException("more than 3 columns of content are not hidden");
        }
        return trial.leastOfAllWidths(paperWidth);
    }

    // ---- borders

    public int border(int kind, int number, int side, int weight)
            throws IllegalArgumentException, IndexOutOfBoundsException {
        if (!hasSide(kind, side) || weight < 0 || weight > MOST_WEIGHT) {
            throw new IllegalArgumentException("kind, side or weight is out of range");
        }
        if (!grid.hasBordered(kind, number)) {
            throw new IndexOutOfBoundsException("no such cell, row or column");
        }
        return grid.setWeight(kind, number, side, weight);
    }

    public int edge(int row, int column, int side)
            throws IndexOutOfBoundsException, IllegalArgumentException, IllegalStateException {
        requireRow(row);
        requireColumn(column);
        if (side < TOP || side > LEFT) {
            throw new IllegalArgumentException("side is out of range");
        }
        if (!grid.isShown(column)) {
            throw new IllegalStateException("the column is hidden");
        }
        boolean isUpright = side == RIGHT || side == LEFT;
        int step = side == TOP || side == LEFT ? -1 : 1;
        int nextRow = isUpright ? row : grid.rowBeside(row, step);
        int nextColumn = isUpright ? grid.columnBeside(column, step) : column;
        int cell = grid.cellNumberAt(row, column);
        int nextCell = grid.cellNumberAt(nextRow, nextColumn);
        if (cell != NOTHING && cell == nextCell) {
            return 0;
        }
        boolean isOutside = nextRow == NOTHING || nextColumn == NOTHING;
        int ofCell = grid.greaterWeight(OF_CELL, cell, nextCell, side);
        int ofRow = isUpright ? 0 : grid.greaterWeight(OF_ROW, row, nextRow, side);
        int ofColumn = isUpright ? grid.greaterWeight(OF_COLUMN, column, nextColumn, side) : 0;
        return strongest(ofCell, ofRow, ofColumn, isOutside ? grid.tableWeight : 0);
    }

    // ---- pages

    public int pages() throws IllegalStateException {
        refresh();
        requireSheets();
        return sheets.pageCount;
    }

    public int pageOf(int row)
            throws IndexOutOfBoundsException, IllegalArgumentException, IllegalStateException {
        requireRow(row);
        if (!grid.isBodyRow(row)) {
            throw new IllegalArgumentException("it is no body row");
        }
        refresh();
        requireSheets();
        return sheets.firstPageOf[row];
    }

    public int linesOn(int row, int page)
            throws IndexOutOfBoundsException, IllegalArgumentException, IllegalStateException {
        requireRow(row);
        if (!grid.isBodyRow(row) || page < 0) {
            throw new IllegalArgumentException("it is no body row, or page is below 0");
        }
        refresh();
        requireSheets();
        return sheets.linesOfItem(row, sheets.pieceBeginOf(page), sheets.pieceEndOf(page));
    }

    public int shown(int cell, int page)
            throws IndexOutOfBoundsException, IllegalArgumentException, IllegalStateException {
        requireCell(cell);
        Cell asked = grid.cells.get(cell);
        if (asked.firstRow.part != BODY || page < 0) {
            throw new IllegalArgumentException("it is no cell of the body, or page is below 0");
        }
        refresh();
        requireSheets();
        int begin = sheets.pieceBeginOf(page);
        int ahead = linesOfRowsOf(asked, 0, begin);
        int here = linesOfRowsOf(asked, begin, sheets.pieceEndOf(page));
        return Math.max(0, Math.min(here, heights.linesOf[cell] - ahead));
    }

    public int used(int page) throws IllegalStateException, IllegalArgumentException {
        refresh();
        requireSheets();
        requirePage(page);
        return sheets.usedOf[page];
    }

    public int notesOn(int page) throws IllegalStateException, IllegalArgumentException {
        refresh();
        requireSheets();
        requirePage(page);
        return sheets.noteLinesOf[page];
    }

    public int look() {
        refresh();
        int changes = sheets.countDifferencesTo(sheetsLookedAt);
        sheetsLookedAt.takeFrom(sheets);
        return changes;
    }

    // ---- sums

    public int total(int column) throws IndexOutOfBoundsException {
        requireColumn(column);
        return grid.sumOfBody(0, grid.body.size(), column);
    }

    public int subtotal(int row, int column) throws IndexOutOfBoundsException, IllegalArgumentException {
        requireRow(row);
        requireColumn(column);
        if (!grid.isBodyRow(row)) {
            throw new IllegalArgumentException("it is no body row");
        }
        Row last = grid.rows.get(row);
        if (!grid.endsRun(last)) {
            return 0;
        }
        return grid.sumOfBody(grid.beginOfRun(last), last.position + 1, column);
    }

    public int carried(int page, int column)
            throws IndexOutOfBoundsException, IllegalStateException, IllegalArgumentException {
        requireColumn(column);
        refresh();
        requireSheets();
        requirePage(page);
        return sheets.carriedOut(page, column);
    }

    public int carriedByCells(int page, int column)
            throws IndexOutOfBoundsException, IllegalStateException, IllegalArgumentException {
        requireColumn(column);
        refresh();
        requireSheets();
        requirePage(page);
        int sum = 0;
        for (int i = 0; i < grid.cells.size(); i++) {
            Cell cell = grid.cells.get(i);
            boolean isMeant = cell.showsFigure() && cell.column == column && cell.firstRow.part == BODY;
            if (isMeant && sheets.firstPageOf[cell.firstRow.number] <= page) {
                sum += cell.hundredths;
            }
        }
        return sum;
    }

    // ---- what the calls above share

    private void requireColumn(int column) throws IndexOutOfBoundsException {
        if (!grid.hasColumn(column)) {
            throw new IndexOutOfBoundsException("no such column");
        }
    }

    private void requireRow(int row) throws IndexOutOfBoundsException {
        if (!grid.hasRow(row)) {
            throw new IndexOutOfBoundsException("no such row");
        }
    }

    private void requireCell(int cell) throws IndexOutOfBoundsException {
        if (!grid.hasCell(cell)) {
            throw new IndexOutOfBoundsException("no such cell");
        }
    }

    private void requireSheets() throws IllegalStateException {
        if (!sheets.isSet) {
            throw new IllegalStateException("the table cannot be set");
        }
    }

    private void requirePage(int page) throws IllegalArgumentException {
        if (!sheets.hasPage(page)) {
            throw new IllegalArgumentException("no such page");
        }
    }

    private void refresh() {
        if (isStale) {
            widths.solve(paperWidth);
            heights.measureCells(widths.solvedOf);
            heights.stackRows();
            flow.fillSheets(pageLines, hasNotesAtEnd);
            sheets.sumUp(grid);
            isStale = false;
        }
    }

    private static boolean isFigure(int hundredths, int decimals) {
        if (hundredths < -MOST_HUNDREDTHS || hundredths > MOST_HUNDREDTHS) {
            return false;
        }
        if (decimals < 0 || decimals > MOST_DECIMALS) {
            return false;
        }
        int step = decimals == 0 ? 100 : decimals == 1 ? 10 : 1;
        return hundredths % step == 0;
    }

    private static boolean hasSide(int kind, int side) {
        switch (kind) {
            case OF_CELL:
                return side >= TOP && side <= LEFT;
            case OF_ROW:
                return side == TOP || side == BOTTOM;
            case OF_COLUMN:
                return side == RIGHT || side == LEFT;
            default:
                return kind == OF_TABLE;
        }
    }

    private static int strongest(int ofCell, int ofRow, int ofColumn, int ofTable) {
        int weight = Math.max(Math.max(ofCell, ofRow), Math.max(ofColumn, ofTable));
        if (weight == 0) {
            return 0;
        }
        int who = ofCell == weight ? OF_CELL : ofRow == weight ? OF_ROW : ofColumn == weight ? OF_COLUMN : OF_TABLE;
        return 10 * weight + who + 1;
    }

    private static int leftPart(int hundredths) {
        int signs = hundredths < 0 ? 2 : 1;
        // Nine digits are more than all body rows together can have.
        int whole = (hundredths < 0 ? -hundredths : hundredths) / 100;
        for (int i = 0; i < 9 && whole >= 10; i++) {
            whole /= 10;
            signs++;
        }
        return signs;
    }

    private int linesOfRowsOf(Cell cell, int begin, int end) {
        int sum = 0;
        int last = Math.min(cell.firstRow.position + cell.rowSpan, grid.body.size());
        for (int i = cell.firstRow.position; i < last; i++) {
            sum += sheets.linesOfItem(grid.body.get(i).number, begin, end);
        }
        return sum;
    }

    private static final class Column {
        final int kind;
        final int value;
        final int[] weights = new int[SIDES];
        boolean isTotalled;

        Column(int kind, int value) {
            this.kind = kind;
            this.value = value;
        }
    }

    private static final class Row {
        final int number;
        final int part;
        final int group;
        final boolean mayBreak;
        final int[] weights = new int[SIDES];
        final int[] places = new int[MOST_COLUMNS];
        int position;

        Row(int number, int part, int group, boolean mayBreak) {
            this.number = number;
            this.part = part;
            this.group = group;
            this.mayBreak = mayBreak;
            Arrays.fill(places, NOTHING);
        }
    }

    private static final class Cell {
        final Row firstRow;
        final int column;
        final int rowSpan;
        final int columnSpan;
        final int[] weights = new int[SIDES];
        final int[] lengths = new int[MOST_WORDS];
        final int[] cuts = new int[MOST_WORDS];
        int wordCount;
        boolean hasFigure;
        int hundredths;
        int decimals;
        int noteLines;
        int shownColumns;

        Cell(Row firstRow, int column, int rowSpan, int columnSpan) {
            this.firstRow = firstRow;
            this.column = column;
            this.rowSpan = rowSpan;
            this.columnSpan = columnSpan;
        }

        void addWord(int length, int cut) {
            if (wordCount < MOST_WORDS) {
                lengths[wordCount] = length;
                cuts[wordCount] = cut;
                wordCount++;
            }
        }

        boolean isOut() {
            return shownColumns == 0;
        }

        boolean showsFigure() {
            return hasFigure && !isOut();
        }

        int rightPart() {
            return (decimals == 0 ? 0 : decimals + 1) + (noteLines > 0 ? 1 : 0);
        }

        int leastByWords() {
            int greatest = 0;
            for (int i = 0; i < wordCount; i++) {
                int piece = cuts[i] == 0 ? lengths[i] : Math.max(cuts[i] + 1, lengths[i] - cuts[i]);
                greatest = Math.max(greatest, piece);
            }
            return greatest;
        }

        int mostByWords() {
            int sum = Math.max(0, wordCount - 1);
            for (int i = 0; i < wordCount; i++) {
                sum += lengths[i];
            }
            return sum;
        }

        int linesAt(int width) {
            if (wordCount == 0) {
                return hasFigure ? 1 : 0;
            }
            int lineCount = 1;
            int end = 0;
            for (int i = 0; i < wordCount; i++) {
                if (end > 0 && !canBePut(end, i, width)) {
                    lineCount++;
                    end = 0;
                }
                if (begin(end) + lengths[i] <= width || !canBePut(end, i, width)) {
                    end = begin(end) + lengths[i];
                } else {
                    lineCount++;
                    end = lengths[i] - cuts[i];
                }
            }
            return lineCount;
        }

        private boolean canBePut(int end, int word, int width) {
            int shortest = cuts[word] == 0 ? lengths[word] : Math.min(lengths[word], cuts[word] + 1);
            return begin(end) + shortest <= width;
        }

        private static int begin(int end) {
            return end == 0 ? 0 : end + 1;
        }
    }

    /** The columns, rows and cells as they were made, and the rows of each part as they stand. */
    private static final class Grid {
        final ArrayList<Column> columns = new ArrayList<>();
        final ArrayList<Row> rows = new ArrayList<>();
        final ArrayList<Cell> cells = new ArrayList<>();
        final ArrayList<Row> heads = new ArrayList<>();
        final ArrayList<Row> body = new ArrayList<>();
        final ArrayList<Row> feet = new ArrayList<>();
        private final boolean[] isShownOf = new boolean[MOST_COLUMNS];
        int tableWeight;

        boolean hasColumn(int number) {
            return number >= 0 && number < columns.size();
        }

        boolean hasRow(int number) {
            return number >= 0 && number < rows.size();
        }

        boolean hasCell(int number) {
            return number >= 0 && number < cells.size();
        }

        boolean isBodyRow(int number) {
            return hasRow(number) && rows.get(number).part == BODY;
        }

        ArrayList<Row> rowsOf(int part) {
            return part == HEAD ? heads : part == BODY ? body : feet;
        }

        boolean isFull(int part) {
            return part < HEAD || part > FOOT || rowsOf(part).size() >= MOST_ROWS_OF_PART[part];
        }

        int addColumn(int kind, int value) {
            int number = columns.size();
            columns.add(new Column(kind, value));
            if (number < MOST_COLUMNS) {
                isShownOf[number] = true;
            }
            return number;
        }

        int addRow(int part, int group, boolean mayBreak) {
            Row added = new Row(rows.size(), part, group, mayBreak);
            ArrayList<Row> ofPart = rowsOf(part);
            added.position = ofPart.size();
            ofPart.add(added);
            rows.add(added);
            return added.number;
        }

        boolean hasFreePlaces(Row first, int column, int rowSpan, int columnSpan) {
            ArrayList<Row> ofPart = rowsOf(first.part);
            int endRow = first.position + rowSpan;
            int endColumn = column + columnSpan;
            if (endRow > ofPart.size() || endColumn > columns.size()) {
                return false;
            }
            for (int i = first.position; i < endRow; i++) {
                for (int j = column; j < endColumn; j++) {
                    if (ofPart.get(i).places[j] != NOTHING) {
                        return false;
                    }
                }
            }
            return true;
        }

        int addCell(Cell cell) {
            int number = cells.size();
            ArrayList<Row> ofPart = rowsOf(cell.firstRow.part);
            int endRow = Math.min(cell.firstRow.position + cell.rowSpan, ofPart.size());
            int endColumn = Math.min(cell.column + cell.columnSpan, columns.size());
            for (int i = cell.firstRow.position; i < endRow; i++) {
                for (int j = cell.column; j < endColumn; j++) {
                    ofPart.get(i).places[j] = number;
                }
            }
            cell.shownColumns = countShown(cell);
            cells.add(cell);
            return number;
        }

        int cellNumberAt(int row, int column) {
            return hasRow(row) && hasColumn(column) ? rows.get(row).places[column] : NOTHING;
        }

        boolean isShown(int column) {
            return column >= 0 && column < MOST_COLUMNS && isShownOf[column];
        }

        boolean isShownContent(int column) {
            return isShown(column) && column < columns.size() && columns.get(column).kind == OF_CONTENT;
        }

        int countShownColumns() {
            int count = 0;
            for (int i = 0; i < columns.size(); i++) {
                count += isShown(i) ? 1 : 0;
            }
            return count;
        }

        int countContentColumns() {
            int count = 0;
            for (int i = 0; i < columns.size(); i++) {
                count += isShownContent(i) ? 1 : 0;
            }
            return count;
        }

        private int countShown(Cell cell) {
            int count = 0;
            for (int i = cell.column; i < cell.column + cell.columnSpan; i++) {
                count += isShown(i) ? 1 : 0;
            }
            return count;
        }

        /** Returns whether the column is hidden then. */
        boolean hideOrShow(int column) {
            if (column >= 0 && column < MOST_COLUMNS) {
                isShownOf[column] = !isShownOf[column];
            }
            for (int i = 0; i < cells.size(); i++) {
                cells.get(i).shownColumns = countShown(cells.get(i));
            }
            return !isShown(column);
        }

        boolean isTotalled(int column) {
            return isShown(column) && column < columns.size() && columns.get(column).isTotalled;
        }

        /** A bit for each column that is totalled. */
        int totalledColumns() {
            int bits = 0;
            for (int i = 0; i < columns.size(); i++) {
                bits |= isTotalled(i) ? 1 << i : 0;
            }
            return bits;
        }

        int between() {
            return Math.max(0, countShownColumns() - 1);
        }

        int widthTogether(int[] widthOf) {
            int sum = between();
            for (int i = 0; i < columns.size() && i < widthOf.length; i++) {
                sum += isShown(i) ? widthOf[i] : 0;
            }
            return sum;
        }

        int widthOfCell(Cell cell, int[] widthOf) {
            int sum = Math.max(0, cell.shownColumns - 1);
            int last = Math.min(cell.column + cell.columnSpan, widthOf.length);
            for (int i = cell.column; i < last; i++) {
                sum += isShown(i) ? widthOf[i] : 0;
            }
            return sum;
        }

        boolean hasFigureAt(Row row, int column) {
            int number = isShown(column) ? row.places[column] : NOTHING;
            return number >= 0 && number < cells.size() && cells.get(number).hasFigure;
        }

        /** The hundredths of the figure at a place; 0 without one. */
        int figureAt(Row row, int column) {
            int number = isShown(column) ? row.places[column] : NOTHING;
            boolean hasFigure = number >= 0 && number < cells.size() && cells.get(number).hasFigure;
            return hasFigure ? cells.get(number).hundredths : 0;
        }

        int sumOfBody(int begin, int end, int column) {
            int sum = 0;
            for (int i = Math.max(0, begin); i < end && i < body.size(); i++) {
                sum += figureAt(body.get(i), column);
            }
            return sum;
        }

        boolean endsRun(Row row) {
            int next = row.position + 1;
            return row.group != 0 && (next >= body.size() || body.get(next).group != row.group);
        }

        int beginOfRun(Row last) {
            int begin = last.position;
            while (begin > 0 && begin <= body.size() && body.get(begin - 1).group == last.group) {
                begin--;
            }
            return begin;
        }

        boolean hasBodyCellOfSeveralRows() {
            for (int i = 0; i < cells.size(); i++) {
                if (cells.get(i).rowSpan > 1 && cells.get(i).firstRow.part == BODY) {
                    return true;
                }
            }
            return false;
        }

        void putBodyInOrder(int column, boolean isFalling) {
            for (int i = 1; i < body.size(); i++) {
                Row moved = body.get(i);
                int to = i;
                while (to > 0 && goesAhead(moved, body.get(to - 1), column, isFalling)) {
                    body.set(to, body.get(to - 1));
                    to--;
                }
                body.set(to, moved);
            }
        }

        private boolean goesAhead(Row one, Row other, int column, boolean isFalling) {
            if (!hasFigureAt(one, column)) {
                return false;
            }
            if (!hasFigureAt(other, column)) {
                return true;
            }
            int figure = figureAt(one, column);
            int otherFigure = figureAt(other, column);
            return isFalling ? figure > otherFigure : figure < otherFigure;
        }

        int numberBodyAnew() {
            int moved = 0;
            for (int i = 0; i < body.size(); i++) {
                moved += body.get(i).position == i ? 0 : 1;
                body.get(i).position = i;
            }
            return moved;
        }

        boolean hasBordered(int kind, int number) {
            switch (kind) {
                case OF_CELL:
                    return hasCell(number);
                case OF_ROW:
                    return hasRow(number);
                case OF_COLUMN:
                    return hasColumn(number);
                default:
                    return true;
            }
        }

        /** Returns the weight before. */
        int setWeight(int kind, int number, int side, int weight) {
            int before;
            if (kind == OF_TABLE) {
                before = tableWeight;
                tableWeight = weight;
            } else {
                before = weightOf(kind, number, side);
                putWeight(kind, number, side, weight);
            }
            return before;
        }

        private void putWeight(int kind, int number, int side, int weight) {
            if (side < 0 || side >= SIDES) {
                return;
            }
            if (kind == OF_CELL && hasCell(number)) {
                cells.get(number).weights[side] = weight;
            } else if (kind == OF_ROW && hasRow(number)) {
                rows.get(number).weights[side] = weight;
            } else if (kind == OF_COLUMN && hasColumn(number)) {
                columns.get(number).weights[side] = weight;
            }
        }

        private int weightOf(int kind, int number, int side) {
            if (side < 0 || side >= SIDES) {
                return 0;
            }
            if (kind == OF_CELL && hasCell(number)) {
                return cells.get(number).weights[side];
            }
            if (kind == OF_ROW && hasRow(number)) {
                return rows.get(number).weights[side];
            }
            return kind == OF_COLUMN && hasColumn(number) ? columns.get(number).weights[side] : 0;
        }

        /** Of two neighbours the greater weight at the edge between them; the next one may be NOTHING. */
        int greaterWeight(int kind, int number, int next, int side) {
            int opposite = (side + 2) % SIDES;
            return Math.max(weightOf(kind, number, side), weightOf(kind, next, opposite));
        }

        /** The row above or below, of whatever part; NOTHING at the outside. */
        int rowBeside(int row, int step) {
            if (!hasRow(row)) {
                return NOTHING;
            }
            Row from = rows.get(row);
            int ahead = from.part == HEAD ? 0 : from.part == BODY ? heads.size() : heads.size() + body.size();
            return rowStandingAt(ahead + from.position + step);
        }

        private int rowStandingAt(int place) {
            int inBody = place - heads.size();
            int inFeet = inBody - body.size();
            if (place < 0 || inFeet >= feet.size()) {
                return NOTHING;
            }
            if (inFeet >= 0) {
                return feet.get(inFeet).number;
            }
            return inBody >= 0 ? body.get(inBody).number : heads.get(place).number;
        }

        /** The next column to the left or right that is not hidden; NOTHING at the outside. */
        int columnBeside(int column, int step) {
            int beside = column;
            for (int i = 0; i < MOST_COLUMNS; i++) {
                beside += step;
                if (isShown(beside)) {
                    return beside;
                }
            }
            return NOTHING;
        }
    }

    /** Least, most and solved widths by column, all 0 for hidden ones. */
    private static final class Widths {
        private final Grid grid;
        final int[] leastOf = new int[MOST_COLUMNS];
        final int[] mostOf = new int[MOST_COLUMNS];
        final int[] solvedOf = new int[MOST_COLUMNS];
        private final int[] leftOf = new int[MOST_COLUMNS];
        private final int[] rightOf = new int[MOST_COLUMNS];
        private final int[] sumAboveOf = new int[MOST_COLUMNS];
        private final int[] sumBelowOf = new int[MOST_COLUMNS];

        Widths(Grid grid) {
            this.grid = grid;
        }

        int pointOf(int column) {
            return column >= 0 && column < MOST_COLUMNS ? solvedOf[column] - rightOf[column] : 0;
        }

        void solve(int paperWidth) {
            clear();
            measureFigures();
            measureTotals();
            measureSingleColumns();
            spreadOverColumns(leastOf, false);
            spreadOverColumns(mostOf, true);
            for (int i = 0; i < MOST_COLUMNS; i++) {
                mostOf[i] = Math.max(mostOf[i], leastOf[i]);
            }
            shareOut(paperWidth - grid.between());
        }

        private void clear() {
            Arrays.fill(leastOf, 0);
            Arrays.fill(mostOf, 0);
            Arrays.fill(solvedOf, 0);
            Arrays.fill(leftOf, 0);
            Arrays.fill(rightOf, 0);
            Arrays.fill(sumAboveOf, 0);
            Arrays.fill(sumBelowOf, 0);
        }

        private void measureFigures() {
            for (int i = 0; i < grid.cells.size(); i++) {
                Cell cell = grid.cells.get(i);
                if (cell.showsFigure() && cell.column < MOST_COLUMNS) {
                    int at = cell.column;
                    leftOf[at] = Math.max(leftOf[at], leftPart(cell.hundredths));
                    rightOf[at] = Math.max(rightOf[at], cell.rightPart());
                    if (cell.firstRow.part == BODY) {
                        sumAboveOf[at] += Math.max(0, cell.hundredths);
                        sumBelowOf[at] += Math.min(0, cell.hundredths);
                    }
                }
            }
        }

        private void measureTotals() {
            for (int i = 0; i < MOST_COLUMNS; i++) {
                // A left part of 0 tells that there is no figure: then a sum does not count either.
                if (leftOf[i] > 0 && grid.isTotalled(i)) {
                    leftOf[i] = Math.max(leftOf[i], leftPart(sumAboveOf[i]));
                    leftOf[i] = Math.max(leftOf[i], leftPart(sumBelowOf[i]));
                }
            }
        }

        private void measureSingleColumns() {
            for (int i = 0; i < MOST_COLUMNS; i++) {
                leastOf[i] = leftOf[i] + rightOf[i];
                mostOf[i] = leftOf[i] + rightOf[i];
            }
            for (int i = 0; i < grid.cells.size(); i++) {
                Cell cell = grid.cells.get(i);
                int at = cell.shownColumns == 1 ? lastShownOf(cell) : NOTHING;
                if (at >= 0 && at < MOST_COLUMNS) {
                    leastOf[at] = Math.max(leastOf[at], cell.leastByWords());
                    mostOf[at] = Math.max(mostOf[at], cell.mostByWords());
                }
            }
        }

        private void spreadOverColumns(int[] widthOf, boolean isMost) {
            for (int shown = 2; shown <= MOST_COLUMNS; shown++) {
                for (int i = 0; i < grid.cells.size(); i++) {
                    Cell cell = grid.cells.get(i);
                    if (cell.shownColumns == shown) {
                        int needed = isMost ? cell.mostByWords() : cell.leastByWords();
                        int lacking = needed - grid.widthOfCell(cell, widthOf);
                        for (int j = 0; j < lacking; j++) {
                            widenOneColumn(cell, widthOf);
                        }
                    }
                }
            }
        }

        private void widenOneColumn(Cell cell, int[] widthOf) {
            int narrowest = NOTHING;
            int last = NOTHING;
            for (int i = cell.column; i < cell.column + cell.columnSpan && i < widthOf.length; i++) {
                if (grid.isShown(i)) {
                    last = i;
                    boolean isTaken = i < grid.columns.size() && grid.columns.get(i).kind != FIXED;
                    if (isTaken && (narrowest == NOTHING || widthOf[i] < widthOf[narrowest])) {
                        narrowest = i;
                    }
                }
            }
            int widened = narrowest == NOTHING ? last : narrowest;
            if (widened >= 0 && widened < widthOf.length) {
                widthOf[widened]++;
            }
        }

        private int lastShownOf(Cell cell) {
            int last = NOTHING;
            for (int i = cell.column; i < cell.column + cell.columnSpan; i++) {
                last = grid.isShown(i) ? i : last;
            }
            return last;
        }

        private void shareOut(int widthForColumns) {
            int rest = widthForColumns;
            int lack = 0;
            for (int i = 0; i < grid.columns.size() && i < MOST_COLUMNS; i++) {
                if (grid.isShown(i)) {
                    solvedOf[i] = Math.max(leastOf[i], wantedBy(grid.columns.get(i), widthForColumns));
                    rest -= solvedOf[i];
                    lack += grid.isShownContent(i) ? mostOf[i] - leastOf[i] : 0;
                }
            }
            if (rest > 0 && lack >= rest) {
                giveInProportion(rest, lack);
            } else if (rest > 0) {
                giveAll();
            }
        }

        private static int wantedBy(Column column, int widthForColumns) {
            if (column.kind == FIXED) {
                return column.value;
            }
            return column.kind == SHARE ? Math.floorDiv(column.value * widthForColumns, 100) : 0;
        }

        private void giveAll() {
            for (int i = 0; i < MOST_COLUMNS; i++) {
                if (grid.isShownContent(i)) {
                    solvedOf[i] = mostOf[i];
                }
            }
        }

        private void giveInProportion(int rest, int lack) {
            if (lack <= 0) {
                return;
            }
            int left = rest;
            for (int i = 0; i < MOST_COLUMNS; i++) {
                if (grid.isShownContent(i)) {
                    int part = rest * (mostOf[i] - leastOf[i]) / lack;
                    solvedOf[i] += part;
                    left -= part;
                }
            }
            for (int i = 0; i < MOST_COLUMNS && left > 0; i++) {
                if (grid.isShownContent(i) && solvedOf[i] < mostOf[i]) {
                    solvedOf[i]++;
                    left--;
                }
            }
        }
    }

    /** Lines by cell and heights by row. */
    private static final class Heights {
        private final Grid grid;
        final int[] linesOf = new int[MOST_CELLS];
        final int[] heightOf = new int[MOST_ROWS];

        Heights(Grid grid) {
            this.grid = grid;
        }

        void measureCells(int[] widthOf) {
            for (int i = 0; i < grid.cells.size() && i < MOST_CELLS; i++) {
                Cell cell = grid.cells.get(i);
                linesOf[i] = cell.isOut() ? 0 : cell.linesAt(grid.widthOfCell(cell, widthOf));
            }
        }

        void stackRows() {
            Arrays.fill(heightOf, 1);
            int greatestSpan = 1;
            for (int i = 0; i < grid.cells.size() && i < MOST_CELLS; i++) {
                Cell cell = grid.cells.get(i);
                int row = cell.firstRow.number;
                if (cell.rowSpan == 1 && row < MOST_ROWS) {
                    heightOf[row] = Math.max(heightOf[row], linesOf[i]);
                }
                greatestSpan = Math.max(greatestSpan, cell.rowSpan);
            }
            for (int span = 2; span <= greatestSpan && span <= MOST_ROW_SPAN; span++) {
                for (int i = 0; i < grid.cells.size() && i < MOST_CELLS; i++) {
                    if (grid.cells.get(i).rowSpan == span) {
                        lengthenLastRow(grid.cells.get(i), linesOf[i]);
                    }
                }
            }
        }

        private void lengthenLastRow(Cell cell, int lineCount) {
            ArrayList<Row> ofPart = grid.rowsOf(cell.firstRow.part);
            int end = Math.min(cell.firstRow.position + cell.rowSpan, ofPart.size());
            int lacking = lineCount;
            int last = NOTHING;
            for (int i = cell.firstRow.position; i < end; i++) {
                last = ofPart.get(i).number;
                lacking -= last < MOST_ROWS ? heightOf[last] : 0;
            }
            if (lacking > 0 && last >= 0 && last < MOST_ROWS) {
                heightOf[last] += lacking;
            }
        }

        int heightOfPart(int part) {
            ArrayList<Row> ofPart = grid.rowsOf(part);
            int sum = 0;
            for (int i = 0; i < ofPart.size(); i++) {
                int row = ofPart.get(i).number;
                sum += row < MOST_ROWS ? heightOf[row] : 0;
            }
            return sum;
        }
    }

    /** Finds heights from nothing, and the least one by trying widths; nothing that is kept is touched. */
    private static final class Trial {
        private final Grid grid;
        private final Widths widths;
        private final Heights heights;
        private final int[] choicesOf = new int[MOST_COLUMNS];
        private final int[] extraOf = new int[MOST_COLUMNS];
        // Many widths that are tried give a cell the same width: its lines are found but once for each.
        private final int[] knownLines = new int[MOST_CELLS * (MOST_EXTRA_TOGETHER + 1)];

        Trial(Grid grid) {
            this.grid = grid;
            widths = new Widths(grid);
            heights = new Heights(grid);
        }

        int heightFromNothing(int row, int paperWidth) {
            widths.solve(paperWidth);
            heights.measureCells(widths.solvedOf);
            heights.stackRows();
            return row >= 0 && row < MOST_ROWS ? heights.heightOf[row] : 0;
        }

        int leastOfAllWidths(int paperWidth) {
            widths.solve(paperWidth);
            takeLeastWidths();
            Arrays.fill(knownLines, NOTHING);
            int rest = paperWidth - grid.widthTogether(widths.solvedOf);
            int choices = countChoices();
            int least = 0;
            for (int choice = 0; choice < choices; choice++) {
                // The first choice is the least widths, which count even if the table is over with them.
                if (chooseExtras(choice) <= rest || choice == 0) {
                    int tried = heightOfChoice();
                    least = choice == 0 ? tried : Math.min(least, tried);
                }
            }
            return least;
        }

        private void takeLeastWidths() {
            for (int i = 0; i < MOST_COLUMNS; i++) {
                choicesOf[i] = 1;
                if (grid.isShownContent(i)) {
                    widths.solvedOf[i] = widths.leastOf[i];
                    choicesOf[i] += Math.min(MOST_EXTRA, widths.mostOf[i] - widths.leastOf[i]);
                }
            }
        }

        private int countChoices() {
            int count = 1;
            for (int i = 0; i < MOST_COLUMNS; i++) {
                count *= choicesOf[i];
            }
            return count;
        }

        /** Reads a choice's number as one digit for each column, and returns the digits' sum. */
        private int chooseExtras(int choice) {
            int digits = choice;
            int sum = 0;
            for (int i = 0; i < MOST_COLUMNS; i++) {
                int base = Math.max(1, choicesOf[i]);
                extraOf[i] = digits % base;
                digits /= base;
                sum += extraOf[i];
            }
            return sum;
        }

        private int heightOfChoice() {
            for (int i = 0; i < grid.cells.size() && i < MOST_CELLS; i++) {
                Cell cell = grid.cells.get(i);
                heights.linesOf[i] = cell.isOut() ? 0 : linesOfCell(i, cell);
            }
            heights.stackRows();
            return heights.heightOfPart(BODY);
        }

        private int linesOfCell(int number, Cell cell) {
            int extra = 0;
            for (int i = cell.column; i < cell.column + cell.columnSpan && i < MOST_COLUMNS; i++) {
                extra += extraOf[i];
            }
            int known = number * (MOST_EXTRA_TOGETHER + 1) + extra;
            if (known < 0 || known >= knownLines.length) {
                return 0;
            }
            if (knownLines[known] == NOTHING) {
                knownLines[known] = cell.linesAt(grid.widthOfCell(cell, widths.solvedOf) + extra);
            }
            return knownLines[known];
        }
    }

    /** What stands on each page: pieces of items, in their order, and lines of notes. */
    private static final class Sheets {
        boolean isSet;
        int pageCount;
        private int pieceCount;
        private int totalledColumns;
        private final int[] itemOf = new int[MOST_PIECES];
        private final int[] firstLineOf = new int[MOST_PIECES];
        private final int[] lineCountOf = new int[MOST_PIECES];
        private final int[] firstPieceOf = new int[MOST_PIECES];
        final int[] usedOf = new int[MOST_PIECES];
        final int[] noteLinesOf = new int[MOST_PIECES];
        private final int[] carriedOf = new int[MOST_PIECES * MOST_COLUMNS];
        final int[] firstPageOf = new int[MOST_ROWS];

        void clear(int totalledColumns) {
            this.totalledColumns = totalledColumns;
            isSet = true;
            pageCount = 0;
            pieceCount = 0;
        }

        void giveUp() {
            clear(0);
            isSet = false;
        }

        boolean hasPage(int page) {
            return page >= 0 && page < pageCount && page < MOST_PIECES;
        }

        void openPage() {
            if (pageCount < MOST_PIECES) {
                firstPieceOf[pageCount] = pieceCount;
                usedOf[pageCount] = 0;
                noteLinesOf[pageCount] = 0;
                pageCount++;
            }
        }

        void put(int item, int firstLine, int lineCount, int noteLines) {
            int page = pageCount - 1;
            if (pieceCount >= MOST_PIECES || page < 0 || page >= MOST_PIECES) {
                return;
            }
            itemOf[pieceCount] = item;
            firstLineOf[pieceCount] = firstLine;
            lineCountOf[pieceCount] = lineCount;
            pieceCount++;
            usedOf[page] += lineCount + noteLines;
            noteLinesOf[page] += item == NOTES_ITEM ? lineCount : noteLines;
            if (item >= 0 && item < MOST_ROWS && firstLine == 0) {
                firstPageOf[item] = page;
            }
        }

        int pieceBeginOf(int page) {
            return hasPage(page) ? firstPieceOf[page] : pieceCount;
        }

        int pieceEndOf(int page) {
            return page < pageCount - 1 ? pieceBeginOf(page + 1) : pieceCount;
        }

        int linesOfItem(int item, int beginPiece, int endPiece) {
            int sum = 0;
            for (int i = Math.max(0, beginPiece); i < endPiece && i < pieceCount; i++) {
                sum += itemOf[i] == item ? lineCountOf[i] : 0;
            }
            return sum;
        }

        int carriedOut(int page, int column) {
            boolean isKept = hasPage(page) && column >= 0 && column < MOST_COLUMNS;
            return isKept ? carriedOf[page * MOST_COLUMNS + column] : 0;
        }

        /** Adds the lines that stand on pages of whatever items. */
        void addFrame(int headsAndFeet, int carryLines) {
            for (int i = 0; i < pageCount && i < MOST_PIECES; i++) {
                usedOf[i] += headsAndFeet;
                usedOf[i] += i > 0 ? 1 + carryLines : 0;
                usedOf[i] += i < pageCount - 1 ? carryLines : 0;
            }
        }

        /** Finds what is carried out of each page. */
        void sumUp(Grid grid) {
            for (int page = 0; page < pageCount && page < MOST_PIECES; page++) {
                for (int i = 0; i < MOST_COLUMNS; i++) {
                    carriedOf[page * MOST_COLUMNS + i] = carriedOut(page - 1, i);
                }
                int end = Math.min(pieceEndOf(page), MOST_PIECES);
                for (int i = pieceBeginOf(page); i < end; i++) {
                    if (firstLineOf[i] == 0 && grid.isBodyRow(itemOf[i])) {
                        addFigures(grid.rows.get(itemOf[i]), page, grid);
                    }
                }
            }
        }

        private void addFigures(Row row, int page, Grid grid) {
            for (int i = 0; i < MOST_COLUMNS && hasPage(page); i++) {
                carriedOf[page * MOST_COLUMNS + i] += grid.figureAt(row, i);
            }
        }

        int countDifferencesTo(Sheets other) {
            int both = Math.min(pageCount, other.pageCount);
            int count = Math.max(pageCount, other.pageCount) - both;
            for (int i = 0; i < both && i < MOST_PIECES; i++) {
                count += hasSamePage(i, other) ? 0 : 1;
            }
            return count;
        }

        private boolean hasSamePage(int page, Sheets other) {
            if (noteLinesOf[page] != other.noteLinesOf[page] || totalledColumns != other.totalledColumns) {
                return false;
            }
            for (int i = 0; i < MOST_COLUMNS; i++) {
                boolean isSame = carriedOut(page, i) == other.carriedOut(page, i)
                    && carriedOut(page - 1, i) == other.carriedOut(page - 1, i);
                if ((totalledColumns >> i & 1) == 1 && !isSame) {
                    return false;
                }
            }
            return hasSamePieces(page, other);
        }

        private boolean hasSamePieces(int page, Sheets other) {
            int begin = pieceBeginOf(page);
            int otherBegin = other.pieceBeginOf(page);
            int count = pieceEndOf(page) - begin;
            if (count != other.pieceEndOf(page) - otherBegin) {
                return false;
            }
            for (int i = 0; i < count && begin + i < MOST_PIECES && otherBegin + i < MOST_PIECES; i++) {
                boolean isSame = itemOf[begin + i] == other.itemOf[otherBegin + i]
                    && firstLineOf[begin + i] == other.firstLineOf[otherBegin + i]
                    && lineCountOf[begin + i] == other.lineCountOf[otherBegin + i];
                if (!isSame) {
                    return false;
                }
            }
            return true;
        }

        void takeFrom(Sheets other) {
            pageCount = other.pageCount;
            pieceCount = other.pieceCount;
            totalledColumns = other.totalledColumns;
            int pieces = Math.min(pieceCount, MOST_PIECES);
            int pages = Math.min(pageCount, MOST_PIECES);
            System.arraycopy(other.itemOf, 0, itemOf, 0, pieces);
            System.arraycopy(other.firstLineOf, 0, firstLineOf, 0, pieces);
            System.arraycopy(other.lineCountOf, 0, lineCountOf, 0, pieces);
            System.arraycopy(other.firstPieceOf, 0, firstPieceOf, 0, pages);
            System.arraycopy(other.noteLinesOf, 0, noteLinesOf, 0, pages);
            System.arraycopy(other.carriedOf, 0, carriedOf, 0, pages * MOST_COLUMNS);
        }
    }

    /** Lets the items flow over pages, and writes into the sheets what stands where. */
    private static final class Flow {
        private final Grid grid;
        private final Heights heights;
        private final Sheets sheets;
        private final int[] itemOf = new int[MOST_ITEMS];
        private final int[] lineCountOf = new int[MOST_ITEMS];
        private final int[] noteLinesOf = new int[MOST_ITEMS];
        private final boolean[] mayBreakOf = new boolean[MOST_ITEMS];
        private final int[] noteLinesOfRow = new int[MOST_ROWS];
        private int itemCount;
        private int headsAndFeet;
        private int carryLines;
        private int pageLines;
        private int left;
        private boolean isPageEmpty;

        Flow(Grid grid, Heights heights, Sheets sheets) {
            this.grid = grid;
            this.heights = heights;
            this.sheets = sheets;
        }

        void fillSheets(int pageLines, boolean hasNotesAtEnd) {
            this.pageLines = pageLines;
            int totalledColumns = grid.totalledColumns();
            carryLines = totalledColumns == 0 ? 0 : 1;
            headsAndFeet = heights.heightOfPart(HEAD) + heights.heightOfPart(FOOT);
            collectItems(hasNotesAtEnd);
            sheets.clear(totalledColumns);
            openPage();
            for (int i = 0; i < itemCount; i++) {
                if (!putItem(i)) {
                    sheets.giveUp();
                    return;
                }
            }
            sheets.addFrame(headsAndFeet, carryLines);
        }

        private void collectItems(boolean hasNotesAtEnd) {
            itemCount = 0;
            int allNoteLines = countNoteLines();
            for (int i = 0; i < grid.body.size(); i++) {
                Row row = grid.body.get(i);
                if (row.number < MOST_ROWS) {
                    int noteLines = hasNotesAtEnd ? 0 : noteLinesOfRow[row.number];
                    addItem(row.number, heights.heightOf[row.number], noteLines, row.mayBreak);
                }
                if (carryLines > 0 && grid.endsRun(row)) {
                    addItem(SUBTOTAL_ITEM + row.number, 1, 0, false);
                }
            }
            if (carryLines > 0) {
                addItem(TOTAL_ITEM, 1, 0, false);
            }
            if (hasNotesAtEnd && allNoteLines > 0) {
                addItem(NOTES_ITEM, allNoteLines, 0, true);
            }
        }

        private int countNoteLines() {
            Arrays.fill(noteLinesOfRow, 0);
            int sum = 0;
            for (int i = 0; i < grid.cells.size(); i++) {
                Cell cell = grid.cells.get(i);
                int row = cell.firstRow.number;
                if (!cell.isOut() && row < MOST_ROWS) {
                    noteLinesOfRow[row] += cell.noteLines;
                    sum += cell.noteLines;
                }
            }
            return sum;
        }

        private void addItem(int item, int lineCount, int noteLines, boolean mayBreak) {
            if (itemCount < MOST_ITEMS) {
                itemOf[itemCount] = item;
                lineCountOf[itemCount] = lineCount;
                noteLinesOf[itemCount] = noteLines;
                mayBreakOf[itemCount] = mayBreak;
                itemCount++;
            }
        }

        private void openPage() {
            sheets.openPage();
            isPageEmpty = true;
            left = pageLines - headsAndFeet - (sheets.pageCount > 1 ? 1 + carryLines : 0);
        }

        /** Returns whether the item could be put. */
        private boolean putItem(int i) {
            if (i < 0 || i >= itemCount || i >= MOST_ITEMS) {
                return false;
            }
            int rest = lineCountOf[i];
            int noteLines = noteLinesOf[i];
            int keptFree = i == itemCount - 1 ? 0 : carryLines;
            // An empty page takes a line at least or ends the loop, so there are two turns a line at most.
            for (int turn = 0; turn < 2 * MOST_PIECES; turn++) {
                if (rest + noteLines <= left - keptFree) {
                    putPiece(i, rest, rest, noteLines);
                    return true;
                }
                int fitting = left - carryLines - noteLines;
                if (fitting >= 1 && (mayBreakOf[i] || isPageEmpty)) {
                    putPiece(i, rest, fitting, noteLines);
                    rest -= fitting;
                    noteLines = 0;
                } else if (isPageEmpty) {
                    return false;
                }
                openPage();
            }
            return false;
        }

        private void putPiece(int i, int rest, int lineCount, int noteLines) {
            if (i >= 0 && i < MOST_ITEMS) {
                sheets.put(itemOf[i], lineCountOf[i] - rest, lineCount, noteLines);
                left -= lineCount + noteLines;
                isPageEmpty = false;
            }
        }
    }
}
