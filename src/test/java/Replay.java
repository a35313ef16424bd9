import java.util.ArrayList;
import java.util.List;
import java.util.StringJoiner;

/**
 * A run of calls that is made anew on a fresh object for every look at it: so all of an object can
 * be looked at, although it is good for 512 calls alone.
 */
final class Replay {
    private static final int MOST_CALLS = 512;

    /** One call; a boolean answer counts 1 or 0. */
    interface Call {
        int on(EditionGrid grid);
    }

    private final int columns;
    private final int rows;
    private final int width;
    private final List<Call> calls = new ArrayList<>();

    Replay(int columns, int rows, int width) {
        this.columns = columns;
        this.rows = rows;
        this.width = width;
    }

    /** A run whose object has this text, and has read and planned it. */
    static Replay planned(int columns, int rows, int width, String text) {
        return new Replay(columns, rows, width).feed(text).read().plan();
    }

    Replay copy() {
        Replay copy = new Replay(columns, rows, width);
        copy.calls.addAll(calls);
        return copy;
    }

    Replay then(Call call) {
        calls.add(call);
        return this;
    }

    Replay feed(String text) {
        for (int i = 0; i < text.length(); i += 8) {
            String piece = text.substring(i, Math.min(i + 8, text.length()));
            calls.add(g -> g.feed(pack(piece), piece.length()));
        }
        return this;
    }

    Replay read() {
        return then(EditionGrid::read);
    }

    Replay plan() {
        return then(EditionGrid::plan);
    }

    Replay clear() {
        return then(EditionGrid::clear);
    }

    Replay metric(char letter, int units) {
        return then(g -> g.metric(letter, units) ? 1 : 0);
    }

    Replay pattern(String written) {
        return then(g -> pattern(g, written));
    }

    /** What one more call answers; it is not made part of the run. */
    int ask(Call call) {
        return call.on(made());
    }

    /** The units of a cell as a text, with . for 0; empty when there is no such cell. */
    String units(int page, int column, int row) {
        EditionGrid grid = made();
        StringBuilder units = new StringBuilder();
        for (int x = 0; grid.ink(page, column, row, x) != -1; x++) {
            int ink = grid.ink(page, column, row, x);
            units.append(ink == 0 ? '.' : (char) ink);
        }
        return units.toString();
    }

    /** What stands in the cells of a column, from its first row to its last one. */
    String cells(int page, int column) {
        EditionGrid grid = made();
        StringJoiner cells = new StringJoiner(" ");
        for (int row = 0; grid.cell(page, column, row) != -1; row++) {
            cells.add(String.valueOf(grid.cell(page, column, row)));
        }
        return cells.toString();
    }

    /** What part() tells for what = 0 .. 10: page, x, y, k, height, first line, lines, and in each column. */
    String told(int story, int part) {
        EditionGrid grid = made();
        StringJoiner told = new StringJoiner(" ");
        for (int what = 0; what <= 10; what++) {
            told.add(String.valueOf(grid.part(story, part, what)));
        }
        return told.toString();
    }

    EditionGrid made() {
        EditionGrid grid = new EditionGrid(columns, rows, width);
        for (Call call : calls) {
            call.on(grid);
        }
        return grid;
    }

    /** All that can be asked now, without a change. */
    List<Integer> answers() {
        List<Integer> answers = new ArrayList<>();
        EditionGrid grid = made();
        int made = calls.size();
        for (Call question : questions()) {
            if (made == MOST_CALLS) {
                grid = made();
                made = calls.size();
            }
            answers.add(question.on(grid));
            made++;
        }
        return answers;
    }

    /** All that can be asked now, and after calls that bring out the text, widths and patterns. */
    List<Integer> state() {
        String letters = "#1a\na b c d e f g h i j k l m n o p\nq r s t u v w x y z\n";
        Replay[] ways = {
            copy(), copy().plan(), copy().read(), copy().read().plan(),
            copy().feed("\n").read(), copy().feed("zz\n").read().plan(),
            copy().clear().feed(letters).read().plan(),
        };
        List<Integer> state = new ArrayList<>();
        for (Replay way : ways) {
            state.addAll(way.answers());
        }
        state.add(ask(EditionGrid::clear));
        state.add(ask(EditionGrid::read));
        state.add(ask(EditionGrid::plan));
        state.add(ask(g -> pattern(g, "0x0q0x0")));
        return state;
    }

    private List<Call> questions() {
        List<Call> questions = new ArrayList<>();
        questions.add(EditionGrid::fault);
        for (int i = -1; i <= 4; i++) {
            int story = i;
            questions.add(g -> g.held(story));
            questions.add(g -> g.lines(story));
            for (int j = -1; j <= 4; j++) {
                int p = j;
                questions.add(g -> g.cost(story, p));
            }
            for (int j = -1; j <= 35; j++) {
                int part = Math.floorDiv(j, 12);
                int what = Math.floorMod(j, 12);
                questions.add(g -> g.part(story, part, what));
            }
        }
        for (char c = 'a'; c <= 'z'; c++) {
            String word = String.valueOf(c).repeat(6);
            questions.add(g -> cuts(g, word));
        }
        addCells(questions);
        return questions;
    }

    private void addCells(List<Call> questions) {
        int c = Math.max(1, Math.min(4, columns));
        int r = Math.max(4, Math.min(16, rows));
        int w = Math.max(16, Math.min(60, width));
        for (int i = 0; i < 3 * c * r; i++) {
            int page = i / (c * r);
            int column = i / r % c;
            int row = i % r;
            questions.add(g -> g.cell(page, column, row));
            for (int j = 0; j < w; j++) {
                int x = j;
                questions.add(g -> g.ink(page, column, row, x));
            }
        }
    }

    static long pack(String bytes) {
        long packed = 0;
        for (int i = 0; i < bytes.length(); i++) {
            packed = packed << 8 | bytes.charAt(i);
        }
        return packed;
    }

    /** A pattern written as 0h3y0: a value before each sign and behind the last one. */
    static int pattern(EditionGrid grid, String written) {
        StringBuilder signs = new StringBuilder();
        StringBuilder values = new StringBuilder();
        for (int i = 0; i < written.length(); i++) {
            if (i % 2 == 1) {
                signs.append(written.charAt(i));
            } else {
                values.append((char) (written.charAt(i) - '0'));
            }
        }
        return grid.pattern(pack(signs.toString()), signs.length(), pack(values.toString()));
    }

    static int cuts(EditionGrid grid, String word) {
        return grid.cuts(pack(word), word.length());
    }
}
