import java.util.ArrayList;
import java.util.Arrays;
import java.util.LinkedHashMap;
import java.util.List;
import java.util.Map;
import java.util.Random;
import java.util.TreeMap;

/**
 * Puts random runs of calls to TablePages and to a second, slow model that works with texts and maps
 * and keeps nothing, and tells every call that they answer differently.
 */
public final class ModelTest {
    private static final int RUNS = 300;

    interface Call {
        Object answer();
    }

    static final class Column {
        int kind, value;
        boolean totalled, hidden;
        Map<Integer, Integer> borders = new TreeMap<>();
    }

    static final class Row {
        int number, part, group;
        boolean mayBreak;
        Map<Integer, Integer> borders = new TreeMap<>();
        Map<Integer, Cell> places = new TreeMap<>();
    }

    static final class Cell {
        int number, column, columns, note;
        List<Row> rows = new ArrayList<>();
        List<int[]> words = new ArrayList<>();
        Integer hundredths;
        int decimals;
        Map<Integer, Integer> borders = new TreeMap<>();
    }

    static final class Item {
        String name;
        Row row;
        int from, lines, notes;
        boolean mayBreak, isNotes, isLast;
    }

    static final class Page {
        List<String> pieces = new ArrayList<>();
        Map<Row, Integer> linesOfRows = new LinkedHashMap<>();
        List<Row> begun = new ArrayList<>();
        int lines, notes;
    }

    /** The document once more, as slowly as it can be said. */
    static final class Model {
        List<Column> columns = new ArrayList<>();
        List<Row> rows = new ArrayList<>();
        List<List<Row>> parts = List.of(new ArrayList<>(), new ArrayList<>(), new ArrayList<>());
        List<Cell> cells = new ArrayList<>();
        int paper = 60, pageLines = 30, tableWeight;
        boolean atEnd;
        List<String> looked = new ArrayList<>();

        static void index(boolean good) {
            if (!good) throw new IndexOutOfBoundsException();
        }

        static void argument(boolean good) {
            if (!good) throw new IllegalArgumentException();
        }

        static void state(boolean good) {
            if (!good) throw new IllegalStateException();
        }

        Column columnOf(int n) {
            index(n >= 0 && n < columns.size());
            return columns.get(n);
        }

        Row rowOf(int n) {
            index(n >= 0 && n < rows.size());
            return rows.get(n);
        }

        Cell cellOf(int n) {
            index(n >= 0 && n < cells.size());
            return cells.get(n);
        }

        int column(int kind, int value) {
            argument(kind >= 0 && kind <= 2 && value >= 1 && value <= 60);
            state(columns.size() < 6 && rows.isEmpty());
            Column c = new Column();
            c.kind = kind;
            c.value = value;
            columns.add(c);
            return columns.size() - 1;
        }

        int row(int part, int group, boolean mayBreak) {
            argument(part >= 0 && part <= 2 && group >= 0 && group <= 9);
            state(!columns.isEmpty() && parts.get(part).size() < (part == 0 ? 3 : part == 1 ? 24 : 2));
            Row r = new Row();
            r.number = rows.size();
            r.part = part;
            r.group = group;
            r.mayBreak = mayBreak;
            rows.add(r);
            parts.get(part).add(r);
            return r.number;
        }

        int cell(int row, int column, int rowCount, int columnCount) {
            Row first = rowOf(row);
            columnOf(column);
            argument(rowCount >= 1 && rowCount <= 4 && columnCount >= 1 && columnCount <= 6);
            List<Row> part = parts.get(first.part);
            int at = part.indexOf(first);
            state(cells.size() < 100 && at + rowCount <= part.size() && column + columnCount <= columns.size());
            Cell c = new Cell();
            c.number = cells.size();
            c.column = column;
            c.columns = columnCount;
            c.rows.addAll(part.subList(at, at + rowCount));
            for (Row r : c.rows)
                for (int j = column; j < column + columnCount; j++) state(!r.places.containsKey(j));
            for (Row r : c.rows)
                for (int j = column; j < column + columnCount; j++) r.places.put(j, c);
            cells.add(c);
            return c.number;
        }

        int word(int cell, int length, int cut) {
            Cell c = cellOf(cell);
            argument(length >= 1 && length <= 20 && cut >= 0 && cut < length);
            state(c.hundredths == null && c.words.size() < 12);
            c.words.add(new int[] {length, cut});
            return c.words.size();
        }

        Object figure(int cell, int hundredths, int decimals) {
            Cell c = cellOf(cell);
            argument(Math.abs((long) hundredths) <= 1000000 && decimals >= 0 && decimals <= 2);
            argument(hundredths % new int[] {100, 10, 1}[decimals] == 0);
            state(c.words.isEmpty() && c.rows.size() == 1 && c.columns == 1);
            c.hundredths = hundredths;
            c.decimals = decimals;
            return "void";
        }

        int empty(int cell) {
            Cell c = cellOf(cell);
            int had = c.words.size();
            c.words.clear();
            c.hundredths = null;
            return had;
        }

        int note(int cell, int lines) {
            Cell c = cellOf(cell);
            argument(lines >= 0 && lines <= 3);
            state(c.rows.get(0).part == 1);
            int before = c.note;
            c.note = lines;
            return before;
        }

        int at(int row, int column) {
            Row r = rowOf(row);
            columnOf(column);
            return r.places.containsKey(column) ? r.places.get(column).number : -1;
        }

        Object setPaper(int width, int lines) {
            argument(width >= 1 && width <= 150 && lines >= 1 && lines <= 100);
            paper = width;
            pageLines = lines;
            return "void";
        }

        boolean notesAtEnd() {
            return atEnd = !atEnd;
        }

        boolean totalled(int column) {
            Column c = columnOf(column);
            return c.totalled = !c.totalled;
        }

        boolean hide(int column) {
            Column c = columnOf(column);
            state(c.hidden || visible().size() > 1);
            return c.hidden = !c.hidden;
        }

        int sort(int column, boolean falling) {
            columnOf(column);
            for (Cell c : cells) state(c.rows.get(0).part != 1 || c.rows.size() == 1);
            List<Row> body = parts.get(1);
            List<Row> before = new ArrayList<>(body);
            List<Row> with = new ArrayList<>(), without = new ArrayList<>();
            for (Row r : body) (figureAt(r, column) == null ? without : with).add(r);
            with.sort((a, b) -> falling
                ? figureAt(b, column).compareTo(figureAt(a, column))
                : figureAt(a, column).compareTo(figureAt(b, column)));
            body.clear();
            body.addAll(with);
            body.addAll(without);
            int moved = 0;
            for (int i = 0; i < body.size(); i++) if (body.get(i) != before.get(i)) moved++;
            return moved;
        }

        List<Integer> visible() {
            List<Integer> list = new ArrayList<>();
            for (int i = 0; i < columns.size(); i++) if (!columns.get(i).hidden) list.add(i);
            return list;
        }

        List<Integer> shownBy(Cell c) {
            List<Integer> list = visible();
            list.removeIf(i -> i < c.column || i >= c.column + c.columns);
            return list;
        }

        List<Cell> cellsIn() {
            List<Cell> list = new ArrayList<>(cells);
            list.removeIf(c -> shownBy(c).isEmpty());
            return list;
        }

        Integer figureAt(Row r, int column) {
            Cell c = r.places.get(column);
            return c == null || columns.get(column).hidden ? null : c.hundredths;
        }

        static String text(int hundredths, int decimals) {
            int abs = Math.abs(hundredths);
            String all = String.format("%s%d.%02d", hundredths < 0 ? "-" : "", abs / 100, abs % 100);
            return decimals == 2 ? all : decimals == 1 ? all.substring(0, all.length() - 1)
                : all.substring(0, all.length() - 3);
        }

        static int ahead(String figure) {
            return figure.contains(".") ? figure.indexOf('.') : figure.length();
        }

        /** The greatest left and right parts. */
        int[] figureParts(int column) {
            int left = 0, right = 0, above = 0, below = 0;
            for (Cell c : cellsIn()) {
                if (c.hundredths == null || c.column != column) continue;
                String t = text(c.hundredths, c.decimals);
                left = Math.max(left, ahead(t));
                right = Math.max(right, t.length() - ahead(t) + (c.note > 0 ? 1 : 0));
                if (c.rows.get(0).part == 1 && c.hundredths > 0) above += c.hundredths;
                if (c.rows.get(0).part == 1 && c.hundredths < 0) below += c.hundredths;
            }
            if (left > 0 && columns.get(column).totalled) {
                left = Math.max(left, Math.max(ahead(text(above, 2)), ahead(text(below, 2))));
            }
            return new int[] {left, right};
        }

        static int longestPiece(Cell c) {
            int most = 0;
            for (int[] w : c.words) {
                most = Math.max(most, w[1] == 0 ? w[0] : Math.max(w[1] + 1, w[0] - w[1]));
            }
            return most;
        }

        static int allWords(Cell c) {
            StringBuilder b = new StringBuilder();
            for (int[] w : c.words) b.append(b.length() == 0 ? "" : " ").append("x".repeat(w[0]));
            return b.length();
        }

        int[][] leastAndMost() {
            int[] least = new int[6], most = new int[6];
            for (int i : visible()) {
                int[] parts = figureParts(i);
                least[i] = most[i] = parts[0] + parts[1];
                for (Cell c : cellsIn()) {
                    if (shownBy(c).equals(List.of(i))) {
                        least[i] = Math.max(least[i], longestPiece(c));
                        most[i] = Math.max(most[i], allWords(c));
                    }
                }
            }
            List<Cell> wide = cellsIn();
            wide.removeIf(c -> shownBy(c).size() < 2);
            wide.sort((a, b) -> shownBy(a).size() - shownBy(b).size());
            for (Cell c : wide) spread(c, least, longestPiece(c));
            for (Cell c : wide) spread(c, most, allWords(c));
            for (int i = 0; i < 6; i++) most[i] = Math.max(most[i], least[i]);
            return new int[][] {least, most};
        }

        void spread(Cell c, int[] w, int needed) {
            List<Integer> shown = shownBy(c);
            while (needed > across(c, w)) {
                int best = -1;
                for (int i : shown) if (columns.get(i).kind != 1 && (best < 0 || w[i] < w[best])) best = i;
                w[best < 0 ? shown.get(shown.size() - 1) : best]++;
            }
        }

        int across(Cell c, int[] w) {
            List<Integer> shown = shownBy(c);
            int sum = shown.size() - 1;
            for (int i : shown) sum += w[i];
            return sum;
        }

        int together(int[] w) {
            int sum = Math.max(0, visible().size() - 1);
            for (int i : visible()) sum += w[i];
            return sum;
        }

        int[] widths() {
            int[][] both = leastAndMost();
            int[] w = new int[6];
            int room = paper - Math.max(0, visible().size() - 1);
            List<Integer> content = new ArrayList<>();
            for (int i : visible()) {
                Column c = columns.get(i);
                int own = c.kind == 0 ? 0 : c.kind == 1 ? c.value : Math.max(0, c.value * room) / 100;
                w[i] = Math.max(both[0][i], own);
                if (c.kind == 0) content.add(i);
            }
            int rest = paper - together(w);
            int lack = 0;
            for (int i : content) lack += both[1][i] - both[0][i];
            if (rest <= 0) return w;
            if (lack < rest) {
                for (int i : content) w[i] = both[1][i];
                return w;
            }
            int given = 0;
            for (int i : content) {
                int part = rest * (both[1][i] - both[0][i]) / lack;
                w[i] += part;
                given += part;
            }
            for (int i : content) {
                if (given < rest && w[i] < both[1][i]) {
                    w[i]++;
                    given++;
                }
            }
            return w;
        }

        int linesOf(Cell c, int[] w) {
            if (shownBy(c).isEmpty()) return 0;
            if (c.words.isEmpty()) return c.hundredths == null ? 0 : 1;
            return layOut(c, across(c, w)).size();
        }

        static List<StringBuilder> layOut(Cell c, int width) {
            List<StringBuilder> lines = new ArrayList<>();
            lines.add(new StringBuilder());
            for (int[] w : c.words) {
                StringBuilder line = lines.get(lines.size() - 1);
                String whole = "x".repeat(w[0]);
                String first = "x".repeat(w[1]) + "-";
                while (true) {
                    String space = line.length() == 0 ? "" : " ";
                    if (line.length() + space.length() + whole.length() <= width) {
                        line.append(space).append(whole);
                        break;
                    }
                    if (w[1] > 0 && line.length() + space.length() + first.length() <= width) {
                        line.append(space).append(first);
                        lines.add(new StringBuilder(whole.substring(w[1])));
                        break;
                    }
                    if (line.length() == 0) {
                        line.append(whole);
                        break;
                    }
                    line = new StringBuilder();
                    lines.add(line);
                }
            }
            return lines;
        }

        Map<Row, Integer> heights(int[] w) {
            Map<Row, Integer> h = new LinkedHashMap<>();
            for (Row r : rows) h.put(r, 1);
            List<Cell> in = cellsIn();
            in.sort((a, b) -> a.rows.size() - b.rows.size());
            for (Cell c : in) {
                int sum = 0;
                for (Row r : c.rows) sum += h.get(r);
                Row last = c.rows.get(c.rows.size() - 1);
                h.put(last, h.get(last) + Math.max(0, linesOf(c, w) - sum));
            }
            return h;
        }

        int heightOfPart(int part, int[] w) {
            Map<Row, Integer> h = heights(w);
            int sum = 0;
            for (Row r : parts.get(part)) sum += h.get(r);
            return sum;
        }

        int least(int column) {
            columnOf(column);
            return leastAndMost()[0][column];
        }

        int most(int column) {
            columnOf(column);
            return leastAndMost()[1][column];
        }

        int width(int column) {
            columnOf(column);
            return widths()[column];
        }

        int over() {
            return Math.max(0, together(widths()) - paper);
        }

        int point(int cell) {
            Cell c = cellOf(cell);
            state(c.hundredths != null && !shownBy(c).isEmpty());
            return widths()[c.column] - figureParts(c.column)[1];
        }

        int begins(int cell) {
            int point = point(cell);
            Cell c = cellOf(cell);
            return point - ahead(text(c.hundredths, c.decimals));
        }

        int lines(int cell) {
            return linesOf(cellOf(cell), widths());
        }

        int height(int row) {
            return heights(widths()).get(rowOf(row));
        }

        int tableHeight() {
            return heightOfPart(1, widths());
        }

        int leastHeight() {
            List<Integer> content = visible();
            content.removeIf(i -> columns.get(i).kind != 0);
            state(content.size() <= 3);
            int[] w = widths();
            int[][] both = leastAndMost();
            for (int i : content) w[i] = both[0][i];
            return leastFrom(content, w, both);
        }

        int leastFrom(List<Integer> content, int[] w, int[][] both) {
            int best = heightOfPart(1, w);
            if (content.isEmpty()) return best;
            int i = content.get(0);
            List<Integer> others = content.subList(1, content.size());
            for (int e = 0; e <= 8 && both[0][i] + e <= both[1][i]; e++) {
                int[] v = w.clone();
                v[i] += e;
                if (e == 0 || together(v) <= paper) best = Math.min(best, leastFrom(others, v, both));
            }
            return best;
        }

        int border(int kind, int number, int side, int weight) {
            argument(kind >= 0 && kind <= 3 && weight >= 0 && weight <= 5);
            argument(kind == 3 || side >= 0 && side <= 3);
            argument(kind != 1 || side % 2 == 0);
            argument(kind != 2 || side % 2 == 1);
            if (kind == 3) {
                int before = tableWeight;
                tableWeight = weight;
                return before;
            }
            Map<Integer, Integer> borders =
                kind == 0 ? cellOf(number).borders : kind == 1 ? rowOf(number).borders : columnOf(number).borders;
            Integer before = borders.put(side, weight);
            return before == null ? 0 : before;
        }

        int edge(int row, int column, int side) {
            Row r = rowOf(row);
            Column c = columnOf(column);
            argument(side >= 0 && side <= 3);
            state(!c.hidden);
            List<Row> all = new ArrayList<>();
            for (List<Row> part : parts) all.addAll(part);
            List<Integer> seen = visible();
            int y = all.indexOf(r) + (side == 0 ? -1 : side == 2 ? 1 : 0);
            int x = seen.indexOf(column) + (side == 3 ? -1 : side == 1 ? 1 : 0);
            boolean outside = y < 0 || y >= all.size() || x < 0 || x >= seen.size();
            Cell here = r.places.get(column);
            Cell there = outside ? null : all.get(y).places.get(seen.get(x));
            if (here != null && here == there) return 0;
            int back = (side + 2) % 4;
            int[] weights = new int[4];
            if (here != null) weights[0] = here.borders.getOrDefault(side, 0);
            if (there != null) weights[0] = Math.max(weights[0], there.borders.getOrDefault(back, 0));
            if (side % 2 == 0) {
                weights[1] = r.borders.getOrDefault(side, 0);
                if (!outside) weights[1] = Math.max(weights[1], all.get(y).borders.getOrDefault(back, 0));
            } else {
                weights[2] = c.borders.getOrDefault(side, 0);
                if (!outside) {
                    weights[2] = Math.max(weights[2], columns.get(seen.get(x)).borders.getOrDefault(back, 0));
                }
            }
            if (outside) weights[3] = tableWeight;
            int best = 0;
            for (int who = 0; who < 4; who++) {
                if (weights[who] > best / 10) best = 10 * weights[who] + who + 1;
            }
            return best;
        }

        boolean isTotalled() {
            for (Column c : columns) if (c.totalled && !c.hidden) return true;
            return false;
        }

        List<Item> items() {
            List<Item> items = new ArrayList<>();
            Map<Row, Integer> h = heights(widths());
            List<Row> body = parts.get(1);
            int allNotes = 0;
            for (int i = 0; i < body.size(); i++) {
                Row r = body.get(i);
                Item item = new Item();
                item.name = "row " + r.number;
                item.row = r;
                item.lines = h.get(r);
                item.mayBreak = r.mayBreak;
                for (Cell c : cellsIn()) if (c.rows.get(0) == r) item.notes += c.note;
                allNotes += item.notes;
                if (atEnd) item.notes = 0;
                items.add(item);
                boolean ends = i + 1 == body.size() || body.get(i + 1).group != r.group;
                if (isTotalled() && r.group != 0 && ends) items.add(line("subtotal " + r.number));
            }
            if (isTotalled()) items.add(line("total"));
            if (atEnd && allNotes > 0) {
                Item notes = line("notes");
                notes.lines = allNotes;
                notes.mayBreak = notes.isNotes = true;
                items.add(notes);
            }
            if (!items.isEmpty()) items.get(items.size() - 1).isLast = true;
            return items;
        }

        static Item line(String name) {
            Item item = new Item();
            item.name = name;
            item.lines = 1;
            return item;
        }

        /** The pages, or null if the table cannot be set. */
        List<Page> pagesOrNull() {
            List<Item> queue = items();
            List<Page> pages = new ArrayList<>();
            int t = isTotalled() ? 1 : 0;
            int frame = heightOfPart(0, widths()) + heightOfPart(2, widths());
            do {
                Page page = new Page();
                int top = frame + (pages.isEmpty() ? 0 : 1 + t);
                int left = pageLines - top;
                while (!queue.isEmpty()) {
                    Item item = queue.get(0);
                    if (item.lines + item.notes <= (item.isLast ? left : left - t)) {
                        put(page, item, item.lines);
                        left -= item.lines + item.notes;
                        queue.remove(0);
                        continue;
                    }
                    int fitting = left - t - item.notes;
                    boolean isFirst = page.pieces.isEmpty();
                    if (isFirst && fitting < 1) return null;
                    if (fitting >= 1 && (item.mayBreak || isFirst)) {
                        put(page, item, fitting);
                        item.from += fitting;
                        item.lines -= fitting;
                        item.notes = 0;
                    }
                    break;
                }
                page.lines += top;
                pages.add(page);
            } while (!queue.isEmpty());
            for (Page p : pages.subList(0, pages.size() - 1)) p.lines += t;
            return pages;
        }

        static void put(Page page, Item item, int count) {
            page.pieces.add(item.name + " from " + item.from + " lines " + count);
            page.lines += count + item.notes;
            page.notes += item.isNotes ? count : item.notes;
            if (item.row != null) {
                page.linesOfRows.merge(item.row, count, Integer::sum);
                if (item.from == 0) page.begun.add(item.row);
            }
        }

        List<Page> sheets() {
            List<Page> pages = pagesOrNull();
            state(pages != null);
            return pages;
        }

        int pages() {
            return sheets().size();
        }

        int pageOf(int row) {
            Row r = rowOf(row);
            argument(r.part == 1);
            List<Page> pages = sheets();
            for (int i = 0; i < pages.size(); i++) if (pages.get(i).begun.contains(r)) return i;
            throw new AssertionError("a row begins nowhere");
        }

        int linesOn(int row, int page) {
            Row r = rowOf(row);
            argument(r.part == 1 && page >= 0);
            List<Page> pages = sheets();
            return page < pages.size() ? pages.get(page).linesOfRows.getOrDefault(r, 0) : 0;
        }

        int shown(int cell, int page) {
            Cell c = cellOf(cell);
            argument(c.rows.get(0).part == 1 && page >= 0);
            List<Page> pages = sheets();
            int rest = linesOf(c, widths());
            for (int i = 0; i < pages.size(); i++) {
                int room = 0;
                for (Row r : c.rows) room += pages.get(i).linesOfRows.getOrDefault(r, 0);
                int now = Math.min(rest, room);
                if (i == page) return now;
                rest -= now;
            }
            return 0;
        }

        Page pageAt(int page) {
            List<Page> pages = sheets();
            argument(page >= 0 && page < pages.size());
            return pages.get(page);
        }

        int used(int page) {
            return pageAt(page).lines;
        }

        int notesOn(int page) {
            return pageAt(page).notes;
        }

        int look() {
            List<String> now = new ArrayList<>();
            List<Page> pages = pagesOrNull();
            for (int i = 0; pages != null && i < pages.size(); i++) {
                StringBuilder b = new StringBuilder(pages.get(i).pieces + " notes " + pages.get(i).notes);
                for (int c : visible()) {
                    if (columns.get(c).totalled) {
                        b.append(" column ").append(c).append(" in ").append(i == 0 ? "-" : "" + carried(i - 1, c));
                        b.append(" out ").append(carried(i, c));
                    }
                }
                now.add(b.toString());
            }
            int count = Math.abs(now.size() - looked.size());
            for (int i = 0; i < now.size() && i < looked.size(); i++) {
                if (!now.get(i).equals(looked.get(i))) count++;
            }
            looked = now;
            return count;
        }

        int sum(List<Row> some, int column) {
            int sum = 0;
            for (Row r : some) if (figureAt(r, column) != null) sum += figureAt(r, column);
            return sum;
        }

        int total(int column) {
            columnOf(column);
            return sum(parts.get(1), column);
        }

        int subtotal(int row, int column) {
            Row r = rowOf(row);
            columnOf(column);
            argument(r.part == 1);
            List<Row> body = parts.get(1);
            int end = body.indexOf(r);
            if (r.group == 0 || end + 1 < body.size() && body.get(end + 1).group == r.group) return 0;
            int begin = end;
            while (begin > 0 && body.get(begin - 1).group == r.group) begin--;
            return sum(body.subList(begin, end + 1), column);
        }

        int carried(int page, int column) {
            columnOf(column);
            pageAt(page);
            int sum = 0;
            for (Page p : sheets().subList(0, page + 1)) sum += sum(p.begun, column);
            return sum;
        }
    }

    private static int calls = 0;
    private static int wrong = 0;
    private static final Map<String, int[]> answered = new TreeMap<>();

    private static Object outcome(Call call) {
        try {
            return call.answer();
        } catch (IndexOutOfBoundsException | IllegalArgumentException | IllegalStateException e) {
            return e.getClass() == IndexOutOfBoundsException.class || e.getClass() == IllegalArgumentException.class
                || e.getClass() == IllegalStateException.class ? "throws." + e.getClass().getSimpleName() : e;
        } catch (RuntimeException e) {
            return e;
        }
    }

    private final Random random;
    private final TablePages x = new TablePages();
    private final Model m = new Model();
    private final List<String> told = new ArrayList<>();
    private final boolean isOrderly;

    private ModelTest(long seed) {
        random = new Random(seed);
        isOrderly = random.nextInt(8) != 0;
    }

    private boolean same(String name, Call ofClass, Call ofModel) {
        Object due = outcome(ofModel);
        Object got = outcome(ofClass);
        calls++;
        told.add(name + " -> " + got);
        int[] counts = answered.computeIfAbsent(name.substring(0, name.indexOf('(')), k -> new int[4]);
        String thrown = due instanceof String ? (String) due : "";
        counts[thrown.endsWith("BoundsException") ? 1 : thrown.endsWith("ArgumentException") ? 2
            : thrown.endsWith("StateException") ? 3 : 0]++;
        if (!due.equals(got)) {
            wrong++;
            System.out.println(told + ", due is " + due);
            return false;
        }
        return true;
    }

    private int from(int low, int high) {
        return low + random.nextInt(high - low + 1);
    }

    /** Mostly in the range, now and then just outside it or far away. */
    private int near(int low, int high) {
        if (random.nextInt(isOrderly ? 40 : 10) == 0) {
            int[] odd = {low - 1, high + 1, Integer.MIN_VALUE, Integer.MAX_VALUE, -1};
            return odd[random.nextInt(odd.length)];
        }
        return high < low ? low : from(low, high);
    }

    private int anyRow() {
        return near(0, m.rows.size() - 1);
    }

    private int anyBodyRow() {
        List<Row> body = m.parts.get(1);
        return body.isEmpty() || random.nextInt(20) == 0 ? anyRow() : body.get(random.nextInt(body.size())).number;
    }

    private int anyColumn() {
        return near(0, m.columns.size() - 1);
    }

    private int anyCell() {
        return near(0, m.cells.size() - 1);
    }

    private int anyPage() {
        List<Page> pages = m.pagesOrNull();
        return near(0, pages == null ? 1 : pages.size() - (random.nextInt(10) == 0 ? 0 : 1));
    }

    private boolean make(int what) {
        if (what == 0) {
            int k = near(0, 2), v = near(1, 60);
            if (k == 1 && v > 15) v = from(1, 15);
            int value = v;
            return same("column(" + k + ", " + v + ")", () -> x.column(k, value), () -> m.column(k, value));
        }
        if (what == 1) {
            int p = random.nextInt(3) == 0 ? near(0, 2) : 1;
            int g = random.nextInt(3) == 0 ? near(0, 9) : from(0, 2);
            boolean b = random.nextBoolean();
            return same("row(" + p + ", " + g + ", " + b + ")", () -> x.row(p, g, b), () -> m.row(p, g, b));
        }
        int r = anyRow(), c = anyColumn();
        int rs = random.nextInt(3) == 0 ? near(1, 4) : 1, cs = random.nextInt(3) == 0 ? near(1, 4) : 1;
        return same("cell(" + r + ", " + c + ", " + rs + ", " + cs + ")",
            () -> x.cell(r, c, rs, cs), () -> m.cell(r, c, rs, cs));
    }

    private boolean fill(int what) {
        int c = anyCell();
        if (what == 0) {
            int length = near(1, random.nextBoolean() ? 20 : 6);
            int cut = random.nextBoolean() ? 0 : near(0, Math.max(1, Math.min(length, 21)) - 1);
            return same("word(" + c + ", " + length + ", " + cut + ")",
                () -> x.word(c, length, cut), () -> m.word(c, length, cut));
        }
        if (what == 1) {
            int d = near(0, 2);
            int size = new int[] {99, 2000, 100000, 1000000}[random.nextInt(4)];
            int h = near(-size, size);
            if (random.nextInt(10) != 0) h -= h % (d == 0 ? 100 : d == 1 ? 10 : 1);
            int hundredths = h;
            return same("figure(" + c + ", " + h + ", " + d + ")", () -> {
                x.figure(c, hundredths, d);
                return "void";
            }, () -> m.figure(c, hundredths, d));
        }
        if (what == 2) return same("empty(" + c + ")", () -> x.empty(c), () -> m.empty(c));
        int lines = near(0, 3);
        return same("note(" + c + ", " + lines + ")", () -> x.note(c, lines), () -> m.note(c, lines));
    }

    private boolean change(int what) {
        int c = anyColumn();
        switch (what) {
            case 0: {
                int w = random.nextBoolean() ? near(1, 150) : from(5, 60);
                int l = random.nextBoolean() ? near(1, 100) : from(2, 16);
                return same("setPaper(" + w + ", " + l + ")", () -> {
                    x.setPaper(w, l);
                    return "void";
                }, () -> m.setPaper(w, l));
            }
            case 1:
                return same("notesAtEnd()", x::notesAtEnd, m::notesAtEnd);
            case 2:
                return same("totalled(" + c + ")", () -> x.totalled(c), () -> m.totalled(c));
            case 3:
                return same("hide(" + c + ")", () -> x.hide(c), () -> m.hide(c));
            case 4: {
                boolean f = random.nextBoolean();
                return same("sort(" + c + ", " + f + ")", () -> x.sort(c, f), () -> m.sort(c, f));
            }
            default: {
                int kind = near(0, 3);
                int n = kind == 0 ? anyCell() : kind == 1 ? anyRow() : kind == 2 ? anyColumn() : from(-9, 9);
                int side = kind == 1 ? 2 * from(0, 1) : kind == 2 ? 1 + 2 * from(0, 1) : near(0, 3);
                if (random.nextInt(20) == 0) side = near(0, 3);
                int s = side, w = near(0, 5);
                return same("border(" + kind + ", " + n + ", " + s + ", " + w + ")",
                    () -> x.border(kind, n, s, w), () -> m.border(kind, n, s, w));
            }
        }
    }

    private boolean askOfSizes(int what) {
        int c = anyColumn(), e = anyCell(), r = anyRow();
        switch (what) {
            case 0: return same("least(" + c + ")", () -> x.least(c), () -> m.least(c));
            case 1: return same("most(" + c + ")", () -> x.most(c), () -> m.most(c));
            case 2: return same("width(" + c + ")", () -> x.width(c), () -> m.width(c));
            case 3: return same("over()", x::over, m::over);
            case 4: return same("point(" + e + ")", () -> x.point(e), () -> m.point(e));
            case 5: return same("begins(" + e + ")", () -> x.begins(e), () -> m.begins(e));
            case 6: return same("lines(" + e + ")", () -> x.lines(e), () -> m.lines(e));
            case 7: return same("height(" + r + ")", () -> x.height(r), () -> m.height(r));
            case 8: return same("heightByCells(" + r + ")", () -> x.heightByCells(r), () -> m.height(r));
            case 9: return same("tableHeight()", x::tableHeight, m::tableHeight);
            case 10: return same("at(" + r + ", " + c + ")", () -> x.at(r, c), () -> m.at(r, c));
            default: {
                int s = near(0, 3);
                return same("edge(" + r + ", " + c + ", " + s + ")", () -> x.edge(r, c, s), () -> m.edge(r, c, s));
            }
        }
    }

    private boolean askOfPages(int what) {
        int c = anyColumn(), e = anyCell(), r = anyBodyRow(), p = anyPage();
        switch (what) {
            case 0: return same("pages()", x::pages, m::pages);
            case 1: return same("pageOf(" + r + ")", () -> x.pageOf(r), () -> m.pageOf(r));
            case 2: return same("linesOn(" + r + ", " + p + ")", () -> x.linesOn(r, p), () -> m.linesOn(r, p));
            case 3: return same("shown(" + e + ", " + p + ")", () -> x.shown(e, p), () -> m.shown(e, p));
            case 4: return same("used(" + p + ")", () -> x.used(p), () -> m.used(p));
            case 5: return same("notesOn(" + p + ")", () -> x.notesOn(p), () -> m.notesOn(p));
            case 6: return same("look()", x::look, m::look);
            case 7: return same("total(" + c + ")", () -> x.total(c), () -> m.total(c));
            case 8: return same("subtotal(" + r + ", " + c + ")", () -> x.subtotal(r, c), () -> m.subtotal(r, c));
            case 9: return same("carried(" + p + ", " + c + ")", () -> x.carried(p, c), () -> m.carried(p, c));
            default:
                return same("carriedByCells(" + p + ", " + c + ")", () -> x.carriedByCells(p, c), () -> m.carried(p, c));
        }
    }

    private boolean oneCall() {
        int dice = random.nextInt(100);
        if (dice < 4) return make(random.nextInt(3));
        if (dice < 16) return fill(random.nextInt(4));
        if (dice < 28) return change(random.nextInt(6));
        if (dice < 29 && (isSmall() || random.nextInt(20) == 0)) {
            return same("leastHeight()", x::leastHeight, m::leastHeight);
        }
        return random.nextBoolean() ? askOfSizes(random.nextInt(12)) : askOfPages(random.nextInt(11));
    }

    private boolean isSmall() {
        return m.cells.size() < 12;
    }

    private boolean allSame() {
        boolean isGood = true;
        int columns = from(1, 6), rows = from(0, 14), cells = from(0, 40), fillings = from(0, 150);
        for (int i = 0; i < columns && isGood; i++) isGood = make(0);
        for (int i = 0; i < rows && isGood; i++) isGood = make(1);
        for (int i = 0; i < cells && isGood; i++) isGood = make(2);
        for (int i = 0; i < fillings && isGood; i++) isGood = fill(random.nextInt(5) == 0 ? 3 : random.nextInt(2));
        if (isGood && random.nextBoolean()) isGood = change(0);
        if (isGood && random.nextBoolean()) isGood = change(2);
        while (isGood && told.size() < 512) isGood = oneCall();
        return isGood;
    }

    public static void main(String[] args) {
        int runs = args.length > 0 ? Integer.parseInt(args[0]) : RUNS;
        long seed = args.length > 1 ? Long.parseLong(args[1]) : 1;
        for (int i = 0; i < runs && wrong < 3; i++) new ModelTest(seed * 1000003 + i).allSame();
        if (args.length > 0) answered.forEach((name, counts) -> System.out.println(name + " " + Arrays.toString(counts)));
        System.out.println(calls + " calls, " + wrong + " not as the model has them");
        if (wrong != 0) System.exit(1);
    }
}
