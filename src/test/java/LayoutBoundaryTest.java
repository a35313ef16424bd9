/**
 * The edges of what comes out: promises 9 to 15 and the terms they rest on, a method for each
 * sentence that names an edge. In columns of 16 units each word "ab" is a line by itself.
 */
public final class LayoutBoundaryTest {
    private static final Verdict VERDICT = new Verdict();
    private static final int[] FAR = {Integer.MIN_VALUE, Integer.MIN_VALUE + 1, -256, -2, 5, 12, 256,
        1 << 28, 1 << 29, 1 << 30, Integer.MAX_VALUE - 1, Integer.MAX_VALUE};

    public static void main(String[] args) {
        breaking();
        filling();
        placing();
        seeing();
        promise9();
        promises10To13();
        promises14And15();
        VERDICT.end();
    }

    private static void breaking() {
        lineOfJustTheMeasure();
        lineWithHyphenOfJustTheMeasure();
        lastLineOfJustTheMeasure();
        leastSumBeforeLongestLine();
        waysOfTheSameSum();
        waysOfTheSameSumWithHyphen();
        paragraphThatCannotBeBroken();
        linesNoneOrTooMany();
        linesFarTooMany();
    }

    private static void filling() {
        badBreaksOfOneLine();
        badBreaksOfTwoLines();
        badBreaksOfThreeLines();
        breaksOfMoreLines();
        columnsThatTakeNone();
        badBreakOverAColumnThatTakesNone();
        noRoomBelowZero();
        noRoomBelowZeroInAJump();
        figureWithMoreColumns();
    }

    private static void placing() {
        heightOfAllRows();
        jumpWithTwoLinesBeforeIt();
        jumpWithTwoLinesBehindIt();
        jumpWithOneLineIsNone();
        jumpFromPageOne();
        jumpOverAPage();
        jumpToNoFreePlace();
        jumpFromTheLastPageIsNone();
        jumpWithAFigure();
        jumpNotBehindABadBreak();
        noPlaceAtAll();
        urgencyAndNumbers();
    }

    private static void seeing() {
        spacesWithOneUnitMore();
        spacesBeforeAHyphen();
        lineWithOneWord();
        lastLineIsNotSpread();
        headlineLongerThanItsColumns();
        headlineAsLongAsItsColumns();
        signsOfAJump();
        figureUnits();
    }

    private static void promise9() {
        planOfNoStories();
        planAgain();
        planWithOtherWidths();
        planWithOtherPatterns();
        planOfHeldStoriesAlone();
    }

    private static void promises10To13() {
        noSuchStory();
        noSuchParagraph();
        noSuchPart();
        noSuchWhat();
        notPlanned();
        heldForOne();
        heldForTwo();
        heldForThree();
    }

    private static void promises14And15() {
        noSuchCell();
        noSuchUnit();
        freeCell();
        cellWithNothing();
        cellOfALaterStory();
    }

    /** A paragraph of so many lines. */
    private static String lines(int n) {
        return "ab" + " ab".repeat(n - 1) + "\n";
    }

    private static Replay planned(int columns, int rows, String text) {
        return Replay.planned(columns, rows, 16, text);
    }

    private static void duePart(String what, Replay run, int story, int part, int... want) {
        EditionGrid grid = run.made();
        int[] got = new int[want.length];
        for (int i = 0; i < want.length; i++) {
            got[i] = grid.part(story, part, i);
        }
        VERDICT.dueAll(what + ": part(" + story + ", " + part + ", ..)", got, want);
    }

    /** The one story is placed whole with this height and these lines in its columns. */
    private static void dueFilled(String what, Replay run, int height, int... inColumns) {
        EditionGrid grid = run.made();
        int[] got = new int[inColumns.length + 1];
        int[] want = new int[inColumns.length + 1];
        got[0] = grid.part(0, 0, 4);
        want[0] = height;
        for (int i = 0; i < inColumns.length; i++) {
            got[i + 1] = grid.part(0, 0, 7 + i);
            want[i + 1] = inColumns[i];
        }
        VERDICT.dueAll(what, got, want);
        VERDICT.due(what + ": no second part", grid.part(0, 1, 0), -1);
    }

    private static void dueColumn(String what, Replay run, int page, int column, int... want) {
        EditionGrid grid = run.made();
        int[] got = new int[want.length];
        for (int row = 0; row < want.length; row++) {
            got[row] = grid.cell(page, column, row);
        }
        VERDICT.dueAll(what + ": column " + column + " of page " + page, got, want);
    }

    /** The units of a cell, written with . for 0. */
    private static void dueInk(String what, Replay run, int page, int column, int row, String want) {
        EditionGrid grid = run.made();
        StringBuilder got = new StringBuilder();
        for (int x = 0; x < want.length(); x++) {
            int ink = grid.ink(page, column, row, x);
            got.append(ink == 0 ? '.' : ink < 0 ? '!' : (char) ink);
        }
        VERDICT.due(what + ": cell " + page + ", " + column + ", " + row, got.toString(), want);
        VERDICT.due(what + ": the unit behind it", grid.ink(page, column, row, want.length()), -1);
    }

    private static void dueHeld(String what, Replay run, int... reasons) {
        EditionGrid grid = run.made();
        int[] got = new int[reasons.length];
        for (int i = 0; i < reasons.length; i++) {
            got[i] = grid.held(i);
        }
        VERDICT.dueAll(what + ": held", got, reasons);
        VERDICT.due(what + ": no more stories", grid.held(reasons.length), -1);
    }

    private static int lineCount(Replay run) {
        return run.ask(g -> g.lines(0));
    }

    private static int cost(Replay run) {
        return run.ask(g -> g.cost(0, 0));
    }

    // Lines of a paragraph

    private static void lineOfJustTheMeasure() {
        Replay word = planned(1, 6, "#1a\nabcd\n");
        VERDICT.due("a word of 16 units", lineCount(word), 1);
        VERDICT.due("a word of 17 units", cost(word.copy().metric('d', 5).plan()), -1);
        Replay words = Replay.planned(1, 6, 19, "#1a\nab cd ef\n");
        VERDICT.due("two words of 19 units", lineCount(words), 2);
        VERDICT.due("they leave nothing over", cost(words), 0);
        words.metric('d', 5).plan();
        VERDICT.due("two words of 20 units", lineCount(words), 3);
        VERDICT.due("11 and 10 units left over", cost(words), 11 * 11 + 10 * 10);
        Replay behind = planned(1, 6, "#1a\nabcd e\n");
        VERDICT.due("the space behind a line has no width", cost(behind), 0);
        dueInk("a line of 16 units", behind, 0, 0, 1, "aaaabbbbccccdddd");
    }

    private static Replay cutBehindC(int c, int f) {
        Replay run = new Replay(1, 6, 16).pattern("0c1").feed("#1a\nabcdef\n").read();
        return run.metric('c', c).metric('f', f).plan();
    }

    private static void lineWithHyphenOfJustTheMeasure() {
        Replay just = cutBehindC(6, 4);
        VERDICT.due("16 units with the hyphen", cost(just), 100);
        dueInk("16 units with the hyphen", just, 0, 0, 1, "aaaabbbbcccccc--");
        VERDICT.due("15 units with the hyphen", cost(cutBehindC(5, 4)), 101);
        VERDICT.due("17 units with the hyphen", cost(cutBehindC(7, 4)), -1);
        VERDICT.due("it is held", cutBehindC(7, 4).ask(g -> g.held(0)), 1);
    }

    private static void lastLineOfJustTheMeasure() {
        VERDICT.due("the rest has 16 units", cost(cutBehindC(4, 8)), 104);
        VERDICT.due("the rest has 17 units", cost(cutBehindC(4, 9)), -1);
        VERDICT.due("the last line costs nothing", cost(planned(1, 6, "#1a\na\n")), 0);
        VERDICT.due("the one before it does", cost(planned(1, 6, "#1a\nabcd a bcde\n")), 12 * 12);
    }

    private static void leastSumBeforeLongestLine() {
        Replay run = Replay.planned(1, 6, 20, "#1a\naa bb c ddddd\n");
        VERDICT.due("144 and 25 are less than 1 and 256", cost(run), 169);
        dueInk("the first line has one word", run, 0, 0, 1, "aaaaaaaa............");
        dueInk("the second has two", run, 0, 0, 2, "bbbbbbbb........cccc");
        dueInk("the last one is full", run, 0, 0, 3, "dddddddddddddddddddd");
    }

    private static void waysOfTheSameSum() {
        Replay first = planned(1, 6, "#1a\naa b aa dd\n");
        VERDICT.due("1 and 64, or 64 and 1", cost(first), 65);
        dueInk("the first line has the most letters", first, 0, 0, 1, "aaaaaaaa....bbbb");
        dueInk("the second has less", first, 0, 0, 2, "aaaaaaaa........");
        Replay second = planned(1, 6, "#1a\ncccc aa b aa dd\n");
        VERDICT.due("0 before the two ways", cost(second), 65);
        dueInk("one first line in all ways", second, 0, 0, 1, "cccccccccccccccc");
        dueInk("the second has the most letters", second, 0, 0, 2, "aaaaaaaa....bbbb");
        dueInk("the third has less", second, 0, 0, 3, "aaaaaaaa........");
    }

    private static void waysOfTheSameSumWithHyphen() {
        Replay run = new Replay(1, 6, 26).metric('b', 2).metric('c', 3).pattern("0b0c1");
        run.feed("#1a\naaaa bcddd\n").read().plan();
        VERDICT.due("10 units over, or a hyphen", cost(run), 100);
        dueInk("more letters with the hyphen", run, 0, 0, 1, "aaaaaaaaaaaaaaaa...bbccc--");
        dueInk("the rest of the word", run, 0, 0, 2, "dddddddddddd..............");
        Replay dearer = run.copy().metric('c', 2).plan();
        VERDICT.due("a hyphen and one unit over cost more", cost(dearer), 100);
        dueInk("no hyphen then", dearer, 0, 0, 1, "aaaaaaaaaaaaaaaa..........");
    }

    private static void paragraphThatCannotBeBroken() {
        for (int bad = 0; bad < 4; bad++) {
            String text = "#1a\n" + "ab\n".repeat(bad) + "abcde\n" + "ab ab\n".repeat(3 - bad);
            Replay run = planned(1, 16, text);
            dueHeld("paragraph " + bad + " cannot be broken", run, 1);
            VERDICT.due("no lines", lineCount(run), 0);
            for (int p = 0; p < 4; p++) {
                int asked = p;
                VERDICT.due("cost of " + p, run.ask(g -> g.cost(0, asked)), p == bad ? -1 : p < bad ? 0 : 64);
            }
            dueColumn("nothing is placed", run, 0, 0, 0, 0, 0, 0, 0, 0, 0, 0, 0, 0, 0, 0, 0, 0, 0, 0);
        }
        VERDICT.due("the first word of two", cost(planned(1, 6, "#1a\nabcde ab\n")), -1);
        VERDICT.due("the last word of two", cost(planned(1, 6, "#1a\nab abcde\n")), -1);
        VERDICT.due("a word in the middle", cost(planned(1, 6, "#1a\nab abcde ab\n")), -1);
        Replay cut = new Replay(1, 6, 16).pattern("0b1").feed("#1a\nabcde\n").read().plan();
        VERDICT.due("a cut that helps", cost(cut), 136);
        Replay other = new Replay(1, 6, 16).pattern("0d1").feed("#1a\nabcde\n").read().plan();
        VERDICT.due("a cut that is too near to the end", cost(other), -1);
    }

    private static void linesNoneOrTooMany() {
        String most = lines(16) + lines(16) + lines(8);
        Replay forty = planned(4, 16, "#1a\n" + most);
        dueHeld("40 lines", forty, 0);
        VERDICT.due("40 lines", lineCount(forty), 40);
        dueFilled("40 lines", forty, 11, 10, 10, 10, 10);
        VERDICT.due("the last one", forty.ask(g -> g.cell(0, 3, 10)), 139);
        Replay more = planned(4, 16, "#1a\n" + most + "ab\n#1b\nab\n");
        dueHeld("41 lines", more, 2, 0);
        VERDICT.due("41 lines", lineCount(more), 41);
        VERDICT.due("their cost", cost(more), 15 * 64);
        VERDICT.due("no part", more.ask(g -> g.part(0, 0, 0)), -1);
        duePart("the next story is at the first place", more, 1, 0, 0, 0, 0, 4, 2, 0, 1, 1, 0, 0, 0);
        dueHeld("40 lines without a place", planned(1, 16, "#1a\n" + most), 3);
        dueHeld("41 lines without a place", planned(1, 16, "#1a\n" + most + "ab\n"), 2);
        dueHeld("no line", planned(4, 16, "#1a\n=11\n"), 2);
        VERDICT.due("no line", lineCount(planned(4, 16, "#1a\n=11\n")), 0);
        dueHeld("one line", planned(4, 16, "#1a\n=11\nab\n"), 0);
        dueHeld("too many lines, and one that cannot be broken", planned(4, 16, "#1a\n" + most + "abcde\n"), 1);
    }

    private static void linesFarTooMany() {
        Replay run = planned(4, 16, "#1a\n" + lines(16).repeat(4));
        VERDICT.due("64 lines", lineCount(run), 64);
        dueHeld("64 lines", run, 2);
        String paragraph = "abcdefghijkl" + " abcdefghijkl".repeat(15) + "\n";
        Replay cut = new Replay(4, 16, 16).feed("#1a\n" + paragraph + paragraph).read();
        for (char letter = 'a'; letter <= 'l'; letter++) {
            cut.metric(letter, 7);
        }
        cut.pattern("0b1").pattern("0d1").pattern("0f1").pattern("0h1").pattern("0j1").plan();
        VERDICT.due("six lines for each of 32 words", lineCount(cut), 192);
        VERDICT.due("five hyphens a word, and 2 units left behind it", cost(cut), 16 * 500 + 15 * 4);
        dueHeld("192 lines", cut, 2);
    }

    // Lines in columns

    private static void badBreaksOfOneLine() {
        dueFilled("two paragraphs of 1", planned(2, 8, "#1a\nab\nab\n"), 2, 1, 1);
        dueFilled("three of 1", planned(3, 8, "#1a\nab\nab\nab\n"), 2, 1, 1, 1);
        dueFilled("1 before 2", planned(2, 8, "#1a\nab\nab ab\n"), 3, 1, 2);
        dueFilled("1 behind 2", planned(2, 8, "#1a\nab ab\nab\n"), 3, 2, 1);
        dueFilled("three of 1 in two columns", planned(2, 8, "#1a\nab\nab\nab\n"), 3, 2, 1);
    }

    private static void badBreaksOfTwoLines() {
        dueFilled("2", planned(2, 8, "#1a\nab ab\n"), 3, 2, 0);
        dueFilled("2 and 2", planned(2, 8, "#1a\nab ab\nab ab\n"), 3, 2, 2);
        dueFilled("2 between 1 and 1", planned(2, 8, "#1a\nab\nab ab\nab\n"), 4, 3, 1);
        dueFilled("2, 2 and 2 in two columns", planned(2, 8, "#1a\nab ab\nab ab\nab ab\n"), 5, 4, 2);
    }

    private static void badBreaksOfThreeLines() {
        dueFilled("3", planned(2, 8, "#1a\nab ab ab\n"), 4, 3, 0);
        dueFilled("3 in four columns", planned(4, 8, "#1a\nab ab ab\n"), 4, 3, 0, 0, 0);
        dueFilled("3 and 3", planned(2, 8, "#1a\nab ab ab\nab ab ab\n"), 4, 3, 3);
        dueFilled("3 before 1", planned(2, 8, "#1a\nab ab ab\nab\n"), 4, 3, 1);
        dueFilled("3 behind 1", planned(2, 8, "#1a\nab\nab ab ab\n"), 4, 1, 3);
    }

    private static void breaksOfMoreLines() {
        dueFilled("4", planned(2, 8, "#1a\n" + lines(4)), 3, 2, 2);
        dueFilled("4 in four columns", planned(4, 8, "#1a\n" + lines(4)), 3, 2, 2, 0, 0);
        dueFilled("5", planned(2, 8, "#1a\n" + lines(5)), 4, 3, 2);
        dueFilled("5 in three columns", planned(3, 8, "#1a\n" + lines(5)), 3, 2, 1, 2);
        dueFilled("6 in four columns", planned(4, 8, "#1a\n" + lines(6)), 3, 2, 2, 2, 0);
        dueFilled("7 in four columns", planned(4, 8, "#1a\n" + lines(7)), 3, 2, 2, 1, 2);
        dueFilled("1 and 4", planned(2, 8, "#1a\nab\n" + lines(4)), 4, 3, 2);
    }

    private static void columnsThatTakeNone() {
        Replay last = planned(2, 8, "#1a\nab ab ab\n");
        dueFilled("the last one", last, 4, 3, 0);
        dueColumn("the last one", last, 0, 1, 180, 90, 90, 90, 0);
        Replay first = planned(2, 8, "#1a\n=12\nab\nab\n");
        dueFilled("the first one", first, 3, 0, 2);
        dueColumn("the first one", first, 0, 0, 180, 181, 181, 0);
        Replay middle = planned(3, 8, "#1a\n=22\nab\nab ab ab\n");
        dueFilled("the one between", middle, 4, 1, 0, 3);
        dueColumn("the one between", middle, 0, 0, 180, 181, 181, 100, 0);
        dueColumn("the one between", middle, 0, 1, 180, 181, 181, 90, 0);
        dueColumn("the one between", middle, 0, 2, 180, 101, 102, 103, 0);
        dueFilled("all but the last one", planned(4, 8, "#1a\n=32\nab\nab\n"), 3, 0, 0, 0, 2);
    }

    private static void badBreakOverAColumnThatTakesNone() {
        dueFilled("3 below a figure", planned(3, 8, "#1a\n=21\nab ab ab\n"), 4, 0, 0, 3);
        dueFilled("4 below a figure", planned(3, 8, "#1a\n=22\n" + lines(4)), 5, 2, 2, 0);
    }

    private static void noRoomBelowZero() {
        dueFilled("room 0 below a figure", planned(2, 8, "#1a\n=12\nab\n"), 3, 0, 1);
        dueFilled("a figure of 9 rows", planned(2, 16, "#1a\n=19\nab\n"), 10, 0, 1);
        dueFilled("a figure in all rows below the headline", planned(2, 4, "#1a\n=13\nab\n"), 4, 0, 1);
        dueHeld("a figure of one row more", planned(2, 4, "#1a\n=14\nab\n"), 3);
        dueFilled("one row left in one column", planned(1, 4, "#1a\n=12\nab\n"), 4, 1);
        dueHeld("no row left in one column", planned(1, 4, "#1a\n=13\nab\n"), 3);
        dueHeld("no row left in two columns", planned(2, 4, "#1a\n=23\nab\n"), 3);
        dueFilled("a figure over all columns", planned(2, 4, "#1a\n=22\nab\nab\n"), 4, 1, 1);
    }

    private static void noRoomBelowZeroInAJump() {
        String first = "#9a\nab ab ab\nab ab ab\n";
        Replay below = planned(2, 8, first + "#1b\n=14\n" + lines(4).repeat(3));
        duePart("4 rows are left below it", below, 0, 0, 0, 0, 0, 2, 4);
        duePart("a figure of 4 rows does not stand there", below, 1, 0, 1, 0, 0, 2, 8, 0, 8, 2, 6, 0, 0);
        duePart("the rest is behind it", below, 1, 1, 2, 0, 0, 2, 3, 8, 4, 2, 2, 0, 0);
        Replay just = planned(2, 8, first + "#1b\n=13\n" + lines(4).repeat(3));
        duePart("a figure of 3 rows does", just, 1, 0, 0, 0, 4, 2, 4, 0, 2, 0, 2, 0, 0);
        duePart("the rest is on page 1", just, 1, 1, 1, 0, 0, 2, 7, 2, 10, 6, 4, 0, 0);
        dueColumn("room 0 below the figure", just, 0, 0, 180, 100, 101, 102, 280, 281, 281, 281);
        dueColumn("2 lines and the sign beside it", just, 0, 1, 180, 103, 104, 105, 280, 200, 201, 282);
    }

    private static void figureWithMoreColumns() {
        for (int columns = 1; columns <= 4; columns++) {
            String text = "#1a\n=%d1\nab\nab\n#1b\nab\n";
            dueHeld("a figure of all columns", planned(columns, 8, text.formatted(columns)), 0, 0);
            Replay wider = planned(columns, 8, text.formatted(columns + 1));
            dueHeld("a figure of one more", wider, 3, 0);
            VERDICT.due("its lines", lineCount(wider), 2);
            VERDICT.due("the next story is at the first place", wider.ask(g -> g.cell(0, 0, 0)), 280);
            dueHeld("a figure of 9", planned(columns, 8, text.formatted(9)), 3, 0);
            String behind = "#9c\nab\nab\n" + text;
            dueHeld("behind a story that has a place", planned(columns, 8, behind.formatted(columns + 1)), 0, 3, 0);
        }
        dueHeld("it does not jump", planned(1, 4, "#1a\n=21\n" + lines(4)), 3);
    }

    // Places

    private static void heightOfAllRows() {
        dueFilled("3 lines in 4 rows", planned(1, 4, "#1a\n" + lines(3)), 4, 3);
        dueFilled("15 lines in 16 rows", planned(1, 16, "#1a\n" + lines(15)), 16, 15);
        dueFilled("two columns", planned(2, 4, "#1a\nab ab ab\nab ab ab\n"), 4, 3, 3);
        Replay four = planned(1, 4, "#1a\n" + lines(4));
        duePart("4 lines in 4 rows", four, 0, 0, 0, 0, 0, 1, 4, 0, 2, 2, 0, 0, 0);
        Replay sixteen = planned(1, 16, "#1a\n" + lines(16));
        duePart("16 lines in 16 rows", sixteen, 0, 0, 0, 0, 0, 1, 16, 0, 14, 14, 0, 0, 0);
        duePart("16 lines in 16 rows", sixteen, 0, 1, 1, 0, 0, 1, 3, 14, 2, 2, 0, 0, 0);
        Replay three = planned(1, 4, ("#1a\n" + lines(3)).repeat(3) + "#1b\nab\n");
        dueHeld("a page each", three, 0, 0, 0, 3);
        Replay both = planned(1, 4, "#1a\nab\n".repeat(4));
        duePart("two stories fill a page", both, 1, 0, 0, 0, 2, 1, 2);
        duePart("the next one", both, 2, 0, 1, 0, 0, 1, 2);
    }

    private static void jumpWithTwoLinesBeforeIt() {
        Replay four = planned(1, 4, "#1a\n" + lines(4));
        duePart("2 and 2", four, 0, 0, 0, 0, 0, 1, 4, 0, 2, 2, 0, 0, 0);
        duePart("2 and 2", four, 0, 1, 1, 0, 0, 1, 3, 2, 2, 2, 0, 0, 0);
        dueColumn("2 and 2", four, 0, 0, 180, 100, 101, 182, -1);
        dueColumn("2 and 2", four, 1, 0, 183, 102, 103, 0, -1);
        dueColumn("2 and 2", four, 2, 0, 0, 0, 0, 0, -1);
        Replay five = planned(1, 4, "#1a\n" + lines(5));
        duePart("2 and 3", five, 0, 1, 1, 0, 0, 1, 4, 2, 3, 3, 0, 0, 0);
        dueHeld("2 and 4", planned(1, 4, "#1a\n" + lines(6)), 3);
        dueHeld("1 and 3 lines", planned(1, 4, "#1a\nab\nab ab ab\n"), 3);
    }

    private static void jumpWithTwoLinesBehindIt() {
        Replay five = planned(1, 5, "#1a\n" + lines(5));
        duePart("3 and 2", five, 0, 0, 0, 0, 0, 1, 5, 0, 3, 3, 0, 0, 0);
        duePart("3 and 2", five, 0, 1, 1, 0, 0, 1, 3, 3, 2, 2, 0, 0, 0);
        Replay columns = planned(2, 4, "#1a\nab\n" + lines(6));
        duePart("5 and 2", columns, 0, 0, 0, 0, 0, 2, 4, 0, 5, 3, 2, 0, 0);
        duePart("5 and 2", columns, 0, 1, 1, 0, 0, 2, 3, 5, 2, 2, 0, 0, 0);
    }

    private static void jumpWithOneLineIsNone() {
        Replay run = planned(2, 4, "#9a\nab\n#1b\nab\nab\n" + lines(6));
        duePart("two rows are left below it", run, 0, 0, 0, 0, 0, 2, 2);
        duePart("one line would go there", run, 1, 0, 1, 0, 0, 2, 4, 0, 4, 2, 2, 0, 0);
        duePart("the rest is behind it", run, 1, 1, 2, 0, 0, 2, 3, 4, 4, 2, 2, 0, 0);
        dueColumn("two rows stay free", run, 0, 0, 180, 100, 0, 0);
        Replay two = planned(3, 4, "#9a\nab\n#1b\nab\nab\n" + lines(8));
        duePart("two lines do in three columns", two, 1, 0, 0, 0, 2, 3, 2, 0, 2, 1, 1, 0, 0);
        Replay oneRow = planned(3, 5, "#9a\nab ab ab\n#1b\nab\nab\n" + lines(12));
        duePart("one row is left below it", oneRow, 0, 0, 0, 0, 0, 3, 4);
        VERDICT.due("it is too little", oneRow.ask(g -> g.part(1, 0, 0)), 1);
    }

    private static void jumpFromPageOne() {
        Replay run = planned(1, 4, "#9a\n" + lines(3) + "#1b\n" + lines(4));
        duePart("2 lines on page 1", run, 1, 0, 1, 0, 0, 1, 4, 0, 2, 2, 0, 0, 0);
        duePart("2 lines on page 2", run, 1, 1, 2, 0, 0, 1, 3, 2, 2, 2, 0, 0, 0);
        dueColumn("page 1", run, 1, 0, 280, 200, 201, 282);
        dueColumn("page 2", run, 2, 0, 283, 202, 203, 0);
    }

    private static void jumpOverAPage() {
        Replay run = planned(1, 6, "#9a\nab\n#8b\n" + lines(5) + "#1c\n" + lines(6));
        duePart("page 1 is full", run, 1, 0, 1, 0, 0, 1, 6);
        duePart("from page 0", run, 2, 0, 0, 0, 2, 1, 4, 0, 2, 2, 0, 0, 0);
        duePart("to page 2", run, 2, 1, 2, 0, 0, 1, 5, 2, 4, 4, 0, 0, 0);
        dueInk("the sign", run, 0, 0, 5, ">3..............");
        dueInk("the sign back", run, 2, 0, 0, "<1..............");
    }

    private static void jumpToNoFreePlace() {
        Replay run = planned(1, 6, "#9a\nab\n#8b\n" + lines(5) + "#7c\n" + lines(4) + "#1d\n" + lines(5));
        duePart("page 1 is full", run, 1, 0, 1, 0, 0, 1, 6);
        duePart("a row is left on page 2", run, 2, 0, 2, 0, 0, 1, 5);
        dueHeld("no place for the rest", run, 0, 0, 0, 3);
        dueColumn("page 0 stays as it was", run, 0, 0, 180, 100, 0, 0, 0, 0);
        Replay just = planned(1, 6, "#9a\nab\n#8b\n" + lines(5) + "#7c\n" + lines(2) + "#1d\n" + lines(4));
        duePart("2 lines go to page 0 before it", just, 2, 0, 0, 0, 2, 1, 3);
        Replay rest = planned(1, 6, "#9a\nab\n#8b\n" + lines(5) + "#7c\nab\nab ab\n#1d\n" + lines(5));
        duePart("3 lines go to page 0 before it", rest, 2, 0, 0, 0, 2, 1, 4);
        duePart("5 lines are whole on page 2", rest, 3, 0, 2, 0, 0, 1, 6);
    }

    private static void jumpFromTheLastPageIsNone() {
        String full = "#9a\n" + lines(3);
        dueHeld("page 2 has 3 rows for lines", planned(1, 4, full + full + "#1b\n" + lines(4)), 0, 0, 3);
        dueHeld("3 lines go there", planned(1, 4, full + full + "#1b\n" + lines(3)), 0, 0, 0);
    }

    private static void jumpWithAFigure() {
        Replay run = planned(1, 6, "#1a\n=12\n" + lines(4));
        duePart("2 lines between figure and sign", run, 0, 0, 0, 0, 0, 1, 6, 0, 2, 2, 0, 0, 0);
        duePart("no figure in the second part", run, 0, 1, 1, 0, 0, 1, 3, 2, 2, 2, 0, 0, 0);
        dueColumn("the first part", run, 0, 0, 180, 181, 181, 100, 101, 182);
        dueColumn("the second part", run, 1, 0, 183, 102, 103, 0, 0, 0);
        dueHeld("a row more leaves 1 line", planned(1, 6, "#1a\n=13\n" + lines(4)), 3);
    }

    private static void jumpNotBehindABadBreak() {
        Replay run = planned(1, 6, "#1a\n" + lines(3) + lines(3));
        duePart("3 of 4 that have room", run, 0, 0, 0, 0, 0, 1, 6, 0, 3, 3, 0, 0, 0);
        dueColumn("a row with nothing before the sign", run, 0, 0, 180, 100, 101, 102, 90, 182);
        dueHeld("each break is bad, or too near to the ends", planned(1, 5, "#1a\nab\n" + lines(3) + "ab\n"), 3);
        Replay last = planned(1, 6, "#1a\nab\nab\n" + lines(4));
        duePart("before the last but one line", last, 0, 0, 0, 0, 0, 1, 6, 0, 4, 4, 0, 0, 0);
    }

    private static void noPlaceAtAll() {
        String full = "#5a\n" + lines(3);
        Replay run = planned(1, 4, full + full + full + "#4b\nab\n");
        VERDICT.due("three have a place", run.ask(EditionGrid::plan), 3);
        dueHeld("the fourth has none", run, 0, 0, 0, 3);
        VERDICT.due("it has a line", run.ask(g -> g.lines(3)), 1);
        VERDICT.due("and a cost", run.ask(g -> g.cost(3, 0)), 0);
        for (int page = 0; page < 3; page++) {
            int base = 100 * (page + 1);
            dueColumn("all is full", run, page, 0, base + 80, base, base + 1, base + 2, -1);
        }
        dueHeld("the least urgent one has none", planned(1, 4, "#4b\nab\n" + full + full + full), 3, 0, 0, 0);
        Replay small = planned(1, 5, full + full + full + "#4b\nab\n");
        dueHeld("a row is left on each page", small, 0, 0, 0, 3);
        Replay two = planned(1, 6, full + full + full + "#4b\nab\n");
        duePart("two rows are left on each page", two, 3, 0, 0, 0, 4, 1, 2);
    }

    private static void urgencyAndNumbers() {
        Replay run = planned(1, 16, "#0a\nab\n#9b\nab\n#0c\nab\n#9d\nab\n");
        dueColumn("9, 9, 0 and 0", run, 0, 0, 280, 200, 480, 400, 180, 100, 380, 300, 0);
    }

    // What is seen

    private static void spacesWithOneUnitMore() {
        String[] two = {"aaaa...bbbb...cccc", "aaaa....bbbb...cccc", "aaaa....bbbb....cccc", "aaaa.....bbbb....cccc"};
        for (int left = 0; left < two.length; left++) {
            Replay run = Replay.planned(1, 6, 18 + left, "#1a\na b c dddd\n");
            dueInk(left + " units for two spaces", run, 0, 0, 1, two[left]);
            VERDICT.due("their cost", cost(run), left * left);
        }
        String[] three = {"aaaa...bbbb...cccc...eeee", "aaaa....bbbb...cccc...eeee", "aaaa....bbbb....cccc...eeee",
            "aaaa....bbbb....cccc....eeee", "aaaa.....bbbb....cccc....eeee"};
        for (int left = 0; left < three.length; left++) {
            Replay run = Replay.planned(1, 6, 25 + left, "#1a\na b c e dddd\n");
            dueInk(left + " units for three spaces", run, 0, 0, 1, three[left]);
        }
    }

    private static void spacesBeforeAHyphen() {
        Replay run = new Replay(1, 6, 19).pattern("0b1c0").feed("#1a\na bbcc\n").read().plan();
        dueInk("2 units for one space", run, 0, 0, 1, "aaaa.....bbbbbbbb--");
        Replay full = new Replay(1, 6, 17).pattern("0b1c0").feed("#1a\na bbcc\n").read().plan();
        dueInk("no unit left", full, 0, 0, 1, "aaaa...bbbbbbbb--");
        Replay two = new Replay(1, 6, 25).pattern("0b1c0").feed("#1a\na a bbcc\n").read().plan();
        dueInk("one unit for two spaces", two, 0, 0, 1, "aaaa....aaaa...bbbbbbbb--");
    }

    private static void lineWithOneWord() {
        Replay run = planned(1, 6, "#1a\nab abc abcd\n");
        dueInk("8 units left over", run, 0, 0, 1, "aaaabbbb........");
        dueInk("4 units left over", run, 0, 0, 2, "aaaabbbbcccc....");
        dueInk("none left over", run, 0, 0, 3, "aaaabbbbccccdddd");
        Replay cut = new Replay(1, 6, 16).pattern("0b1c0").feed("#1a\nabcde\n").read().plan();
        dueInk("a hyphen behind it", cut, 0, 0, 1, "aaaabbbb--......");
        dueInk("the rest of it", cut, 0, 0, 2, "ccccddddeeee....");
    }

    private static void lastLineIsNotSpread() {
        Replay run = planned(1, 6, "#1a\na b\nabcd a b\n");
        dueInk("a line alone", run, 0, 0, 1, "aaaa...bbbb.....");
        dueInk("a last line", run, 0, 0, 3, "aaaa...bbbb.....");
    }

    private static void headlineLongerThanItsColumns() {
        Replay one = planned(1, 6, "#1abcde\nab\n");
        dueInk("20 units in 16", one, 0, 0, 0, "aaaabbbbccccdddd");
        dueInk("no more of it below", one, 0, 0, 1, "aaaabbbb........");
        Replay within = planned(1, 6, "#1ab cde\nab\n");
        dueInk("its end within a letter", within, 0, 0, 0, "aaaabbbb...ccccd");
        Replay two = planned(2, 6, "#1abc def ghijkl\nab\n");
        dueInk("over two columns", two, 0, 0, 0, "aaaabbbbcccc...d");
        dueInk("over two columns", two, 0, 1, 0, "dddeeeeffff...gg");
        Replay most = planned(4, 6, "#1abcdefghijkl abcdefghijkl abcdefghijkl abcdefghijkl\nab\n");
        dueInk("the longest one", most, 0, 0, 0, "aaaabbbbccccdddd");
        dueInk("the longest one", most, 0, 3, 0, "...aaaabbbbccccd");
        VERDICT.due("its last column is its own", most.ask(g -> g.cell(0, 3, 0)), 180);
    }

    private static void headlineAsLongAsItsColumns() {
        Replay two = planned(2, 6, "#1abcdefgh\nab\n");
        dueInk("32 units in 32", two, 0, 0, 0, "aaaabbbbccccdddd");
        dueInk("32 units in 32", two, 0, 1, 0, "eeeeffffgggghhhh");
        Replay more = planned(2, 6, "#1abcdefghi\nab\n");
        dueInk("36 units in 32", more, 0, 1, 0, "eeeeffffgggghhhh");
        Replay less = planned(2, 6, "#1abcd\nab\n");
        dueInk("16 units in 32", less, 0, 1, 0, "................");
        VERDICT.due("a cell of the headline all the same", less.ask(g -> g.cell(0, 1, 0)), 180);
    }

    private static void signsOfAJump() {
        Replay first = planned(2, 4, "#1abcdefghijkl\nab\nab\nab ab\n" + lines(4));
        dueInk("from page 0", first, 0, 1, 3, ">2..............");
        dueInk("to page 1", first, 1, 0, 0, "<1..............");
        dueInk("no headline there", first, 1, 1, 0, "................");
        dueColumn("no headline there", first, 1, 1, 90, 106, 107, 0);
        Replay second = planned(1, 4, "#9a\n" + lines(3) + "#1b\n" + lines(4));
        dueInk("from page 1", second, 1, 0, 3, ">3..............");
        dueInk("to page 2", second, 2, 0, 0, "<2..............");
    }

    private static void figureUnits() {
        Replay run = planned(2, 6, "#1a\n=12\nab\n");
        dueInk("its first row", run, 0, 0, 1, "################");
        dueInk("its last row", run, 0, 0, 2, "################");
        dueInk("the row behind it", run, 0, 0, 3, "................");
        dueInk("beside it", run, 0, 1, 1, "aaaabbbb........");
    }

    // Promise 9

    private static void planOfNoStories() {
        Replay run = new Replay(1, 4, 16);
        VERDICT.refused("a new object", run, EditionGrid::plan, -1);
        VERDICT.refused("a text that is not read", run.copy().feed("#1a\nb\n"), EditionGrid::plan, -1);
        VERDICT.refused("a fault", run.copy().feed("#1a\nb").read(), EditionGrid::plan, -1);
        VERDICT.refused("a fault behind a plan", planned(1, 4, "#1a\nb\n").feed("!").read(), EditionGrid::plan, -1);
        VERDICT.refused("an empty text", run.copy().read(), EditionGrid::plan, -1);
    }

    private static final String MIXED = "#1a\nab cd ef\n=11\nabcdef\n#7bc\nab cdef ab\n#7d\n=12\nab ab ab ab\n#3e\nfedcba ab ab\n";

    private static void planAgain() {
        for (int columns = 1; columns <= 4; columns++) {
            Replay run = Replay.planned(columns, 5, 24, MIXED);
            VERDICT.same("plan() again", run.copy().plan(), run);
            VERDICT.due("its answer", run.ask(EditionGrid::plan), new Replay(columns, 5, 24).feed(MIXED).read().ask(EditionGrid::plan));
        }
        Replay jump = planned(1, 4, "#1a\n" + lines(4));
        VERDICT.same("plan() of a jump again", jump.copy().plan(), jump);
    }

    private static void planWithOtherWidths() {
        Replay run = planned(1, 6, "#1a\nabcd ab\n");
        VERDICT.due("2 lines", lineCount(run), 2);
        Replay wide = run.copy().metric('d', 5);
        VERDICT.taken("a word that is too wide", wide, EditionGrid::plan, 0);
        dueHeld("a word that is too wide", wide, 1);
        dueColumn("nothing of the old plan is there", wide, 0, 0, 0, 0, 0, 0, 0, 0);
        VERDICT.due("nor its part", wide.ask(g -> g.part(0, 0, 0)), -1);
        Replay back = wide.copy().metric('d', 4).plan();
        VERDICT.same("back to the old widths", back, run);
        Replay narrow = run.copy().metric('c', 1).metric('d', 1).metric('b', 1);
        VERDICT.taken("less lines", narrow, EditionGrid::plan, 1);
        dueColumn("less lines", narrow, 0, 0, 180, 100, 0, 0, 0, 0);
        for (int columns = 1; columns <= 4; columns++) {
            Replay later = Replay.planned(columns, 5, 24, MIXED).metric('a', 9).metric('f', 1).plan();
            Replay before = new Replay(columns, 5, 24).metric('a', 9).metric('f', 1).feed(MIXED).read().plan();
            VERDICT.same("widths before the first plan or behind it", later, before);
        }
    }

    private static void planWithOtherPatterns() {
        Replay run = planned(1, 6, "#1a\nabcde\n#1b\nab\n");
        dueHeld("no cut", run, 1, 0);
        dueColumn("no cut", run, 0, 0, 280, 200, 0, 0, 0, 0);
        Replay cut = run.copy().pattern("0b1");
        VERDICT.due("nothing is seen of it", cut.ask(g -> g.held(0)), 1);
        VERDICT.taken("a cut", cut, EditionGrid::plan, 2);
        dueHeld("a cut", cut, 0, 0);
        dueColumn("a cut", cut, 0, 0, 180, 100, 101, 280, 200, 0);
        VERDICT.taken("the cut is gone", cut.copy().pattern("0b2"), EditionGrid::plan, 1);
        for (int columns = 1; columns <= 4; columns++) {
            Replay later = Replay.planned(columns, 5, 20, MIXED).pattern("0c1").pattern("0d1").plan();
            Replay before = new Replay(columns, 5, 20).pattern("0c1").pattern("0d1").feed(MIXED).read().plan();
            VERDICT.same("patterns before the first plan or behind it", later, before);
        }
    }

    private static void planOfHeldStoriesAlone() {
        VERDICT.due("all are held", new Replay(1, 4, 16).feed("#1a\nabcde\n#1b\n=11\n#1c\n=21\nab\n").read().ask(EditionGrid::plan), 0);
        VERDICT.due("none is held", new Replay(1, 4, 16).feed("#1a\nab\n".repeat(4)).read().ask(EditionGrid::plan), 4);
    }

    // Promises 10 to 13

    /** Stories that are held for 1, 2 and 3, and one that is not. */
    private static Replay oneOfEach() {
        return planned(2, 4, "#1a\nabcde\nab\n#1b\n=11\n#1c\n=31\nab ab\n#1d\nabcd\n");
    }

    private static void noSuchStory() {
        Replay run = oneOfEach();
        dueHeld("one of each", run, 1, 2, 3, 0);
        for (int story : new int[] {-1, 4}) {
            VERDICT.refused("held(" + story + ")", run, g -> g.held(story), -1);
            VERDICT.refused("lines(" + story + ")", run, g -> g.lines(story), -1);
            VERDICT.refused("cost(" + story + ", 0)", run, g -> g.cost(story, 0), -1);
            VERDICT.refused("part(" + story + ", 0, 0)", run, g -> g.part(story, 0, 0), -1);
        }
        for (int story : FAR) {
            EditionGrid grid = run.made();
            VERDICT.due("held(" + story + ")", grid.held(story), -1);
            VERDICT.due("lines(" + story + ")", grid.lines(story), -1);
            VERDICT.due("cost(" + story + ", 0)", grid.cost(story, 0), -1);
            VERDICT.due("part(" + story + ", 0, 0)", grid.part(story, 0, 0), -1);
        }
        Replay single = planned(2, 4, "#1a\nab\n");
        VERDICT.due("the only story", single.ask(g -> g.held(0)), 0);
        VERDICT.due("one behind it", single.ask(g -> g.held(1)), -1);
        Replay fewer = oneOfEach().clear().feed("#1a\nab\n").read().plan();
        VERDICT.due("one that was there before", fewer.ask(g -> g.held(1)), -1);
        VERDICT.due("its lines", fewer.ask(g -> g.lines(1)), -1);
        VERDICT.due("its part", fewer.ask(g -> g.part(3, 0, 0)), -1);
    }

    private static void noSuchParagraph() {
        for (int count = 1; count <= 4; count++) {
            int behind = count;
            Replay run = planned(2, 16, "#1a\n" + "ab ab\n".repeat(count));
            VERDICT.due("the last paragraph", run.ask(g -> g.cost(0, behind - 1)), 64);
            VERDICT.refused("a paragraph behind it", run, g -> g.cost(0, behind), -1);
            VERDICT.refused("paragraph -1", run, g -> g.cost(0, -1), -1);
            for (int p : FAR) {
                VERDICT.due("cost(0, " + p + ")", run.ask(g -> g.cost(0, p)), -1);
            }
        }
        VERDICT.due("no paragraph at all", planned(2, 4, "#1a\n=11\n").ask(g -> g.cost(0, 0)), -1);
        VERDICT.due("a figure is none", planned(2, 4, "#1a\n=11\nab\n").ask(g -> g.cost(0, 1)), -1);
        Replay fewer = planned(2, 16, "#1a\nab ab\nab ab\n").clear().feed("#1a\nab ab\n").read().plan();
        VERDICT.due("one that was there before", fewer.ask(g -> g.cost(0, 1)), -1);
    }

    private static void noSuchPart() {
        Replay whole = planned(1, 4, "#1a\nab\n");
        Replay jump = planned(1, 4, "#1a\n" + lines(4));
        VERDICT.due("part 0 of a whole", whole.ask(g -> g.part(0, 0, 6)), 1);
        VERDICT.refused("part 1 of a whole", whole, g -> g.part(0, 1, 6), -1);
        VERDICT.refused("part -1 of a whole", whole, g -> g.part(0, -1, 6), -1);
        VERDICT.due("part 1 of a jump", jump.ask(g -> g.part(0, 1, 6)), 2);
        VERDICT.refused("part 2 of a jump", jump, g -> g.part(0, 2, 6), -1);
        VERDICT.refused("part -1 of a jump", jump, g -> g.part(0, -1, 6), -1);
        for (int part : FAR) {
            VERDICT.due("part " + part, jump.ask(g -> g.part(0, part, 0)), -1);
        }
        Replay narrow = jump.copy().metric('a', 1).metric('b', 1).plan();
        VERDICT.due("whole at the next plan()", narrow.ask(g -> g.part(0, 0, 6)), 2);
        VERDICT.due("its second part is gone", narrow.ask(g -> g.part(0, 1, 6)), -1);
    }

    private static void noSuchWhat() {
        Replay jump = planned(1, 4, "#1a\n" + lines(4));
        duePart("what = 0 .. 11", jump, 0, 0, 0, 0, 0, 1, 4, 0, 2, 2, 0, 0, 0, -1);
        duePart("what = 0 .. 11", jump, 0, 1, 1, 0, 0, 1, 3, 2, 2, 2, 0, 0, 0, -1);
        VERDICT.refused("what = -1", jump, g -> g.part(0, 0, -1), -1);
        VERDICT.refused("what = 11", jump, g -> g.part(0, 0, 11), -1);
        for (int what : new int[] {Integer.MIN_VALUE, -256, -7, 12, 256, 1 << 30, Integer.MAX_VALUE}) {
            VERDICT.due("what = " + what, jump.ask(g -> g.part(0, 0, what)), -1);
            VERDICT.due("what = " + what, jump.ask(g -> g.part(0, 1, what)), -1);
        }
        for (int k = 1; k <= 4; k++) {
            int columns = k;
            Replay run = planned(k, 8, "#1a\n" + "ab\n".repeat(k));
            VERDICT.due("in the last column of " + k, run.ask(g -> g.part(0, 0, 6 + columns)), 1);
            VERDICT.due("beyond k", run.ask(g -> g.part(0, 0, 7 + columns)), k == 4 ? -1 : 0);
        }
    }

    private static void dueNotPlanned(String what, Replay run) {
        for (int i = 0; i < 4; i++) {
            int story = i;
            VERDICT.due(what + ": held", run.ask(g -> g.held(story)), -1);
            VERDICT.due(what + ": lines", run.ask(g -> g.lines(story)), -1);
            VERDICT.due(what + ": cost", run.ask(g -> g.cost(story, 0)), -1);
            VERDICT.due(what + ": part", run.ask(g -> g.part(story, 0, 0)), -1);
        }
    }

    private static void notPlanned() {
        dueNotPlanned("no text", new Replay(2, 4, 16));
        dueNotPlanned("a text", new Replay(2, 4, 16).feed("#1a\nab\n"));
        dueNotPlanned("read", new Replay(2, 4, 16).feed("#1a\nab\n").read());
        dueNotPlanned("planned before it was read", new Replay(2, 4, 16).feed("#1a\nab\n").plan().read());
        dueNotPlanned("read again", oneOfEach().read());
        dueNotPlanned("a fault", oneOfEach().feed("!").read());
        dueNotPlanned("a fault, and plan()", oneOfEach().feed("!").read().plan());
        VERDICT.same("read again and planned", oneOfEach().read().plan(), oneOfEach());
    }

    private static void duePartsNone(String what, Replay run, int story) {
        for (int i = 0; i < 22; i++) {
            int part = i / 11;
            int asked = i % 11;
            VERDICT.due(what + ": part " + part + ", what " + asked, run.ask(g -> g.part(story, part, asked)), -1);
        }
    }

    private static void heldForOne() {
        Replay run = oneOfEach();
        VERDICT.due("held for 1", run.ask(g -> g.held(0)), 1);
        VERDICT.due("its lines", run.ask(g -> g.lines(0)), 0);
        VERDICT.due("the paragraph that cannot be broken", run.ask(g -> g.cost(0, 0)), -1);
        VERDICT.due("the one that can", run.ask(g -> g.cost(0, 1)), 0);
        VERDICT.due("no third one", run.ask(g -> g.cost(0, 2)), -1);
        duePartsNone("held for 1", run, 0);
    }

    private static void heldForTwo() {
        Replay run = oneOfEach();
        VERDICT.due("held for 2", run.ask(g -> g.held(1)), 2);
        VERDICT.due("its lines", run.ask(g -> g.lines(1)), 0);
        VERDICT.due("no paragraph", run.ask(g -> g.cost(1, 0)), -1);
        duePartsNone("held for 2", run, 1);
        Replay more = planned(4, 16, "#1a\n" + lines(16) + lines(16) + lines(9));
        VERDICT.due("held for 2", more.ask(g -> g.held(0)), 2);
        VERDICT.due("its lines", lineCount(more), 41);
        VERDICT.due("its last paragraph", more.ask(g -> g.cost(0, 2)), 8 * 64);
        VERDICT.due("no more", more.ask(g -> g.cost(0, 3)), -1);
        duePartsNone("held for 2", more, 0);
    }

    private static void heldForThree() {
        Replay run = oneOfEach();
        VERDICT.due("held for 3", run.ask(g -> g.held(2)), 3);
        VERDICT.due("its lines", run.ask(g -> g.lines(2)), 2);
        VERDICT.due("its paragraph", run.ask(g -> g.cost(2, 0)), 64);
        duePartsNone("held for 3", run, 2);
        VERDICT.due("not held", run.ask(g -> g.held(3)), 0);
        duePart("not held", run, 3, 0, 0, 0, 0, 2, 2, 0, 1, 1, 0, 0, 0);
        Replay jump = planned(1, 4, "#1a\n" + lines(4));
        Replay none = jump.copy().metric('a', 9).metric('b', 9).plan();
        VERDICT.due("a jump, then held for 1", none.ask(g -> g.held(0)), 1);
        duePartsNone("a jump, then held for 1", none, 0);
    }

    // Promises 14 and 15

    private static void noSuchCell() {
        Replay[] runs = {new Replay(2, 5, 20), Replay.planned(2, 5, 20, "#1a\nab ab\n=21\n")};
        for (Replay run : runs) {
            int[][] none = {{-1, 0, 0}, {3, 0, 0}, {0, -1, 0}, {0, 2, 0}, {0, 0, -1}, {0, 0, 5}, {1, -1, 4}, {1, 0, 16},
                {0, 1, 5}, {2, 1, 5}, {2, 2, 0}, {3, -1, 0}};
            for (int[] at : none) {
                VERDICT.refused("no such cell", run, g -> g.cell(at[0], at[1], at[2]), -1);
                VERDICT.refused("no such cell", run, g -> g.ink(at[0], at[1], at[2], 0), -1);
            }
            for (int far : FAR) {
                VERDICT.due("page " + far, run.ask(g -> g.cell(far, 0, 0)), -1);
                VERDICT.due("column " + far, run.ask(g -> g.cell(0, far, 0)), -1);
                VERDICT.due("row " + far, run.ask(g -> g.cell(0, 0, far)), -1);
                VERDICT.due("page " + far, run.ask(g -> g.ink(far, 0, 0, 0)), -1);
                VERDICT.due("column " + far, run.ask(g -> g.ink(0, far, 0, 0)), -1);
                VERDICT.due("row " + far, run.ask(g -> g.ink(0, 0, far, 0)), -1);
            }
            VERDICT.due("the last cell", run.ask(g -> g.cell(2, 1, 4)), 0);
            VERDICT.due("its last unit", run.ask(g -> g.ink(2, 1, 4, 19)), 0);
        }
    }

    private static void noSuchUnit() {
        Replay run = Replay.planned(2, 5, 20, "#1abcdefghijkl\nabcde ab\n=21\n");
        int[] rows = {0, 1, 2, 3, 4};
        for (int row : rows) {
            VERDICT.refused("x = -1 in row " + row, run, g -> g.ink(0, 0, row, -1), -1);
            VERDICT.refused("x = 20 in row " + row, run, g -> g.ink(0, 0, row, 20), -1);
            for (int x : new int[] {Integer.MIN_VALUE, -256, 21, 60, 256, Integer.MAX_VALUE}) {
                VERDICT.due("x = " + x + " in row " + row, run.ask(g -> g.ink(0, 0, row, x)), -1);
            }
        }
        VERDICT.due("unit 0", run.ask(g -> g.ink(0, 0, 0, 0)), 'a');
        VERDICT.due("unit 19", run.ask(g -> g.ink(0, 0, 0, 19)), 'e');
        VERDICT.due("unit 19 of a line", run.ask(g -> g.ink(0, 0, 2, 19)), 'e');
        VERDICT.due("unit 19 of a figure", run.ask(g -> g.ink(0, 0, 1, 19)), 35);
        VERDICT.due("neither cell nor unit", run.ask(g -> g.ink(3, 0, 0, 20)), -1);
    }

    private static void freeCell() {
        Replay run = planned(2, 5, "#1a\nab\n");
        dueColumn("below a story", run, 0, 0, 180, 100, 0, 0, 0, -1);
        dueInk("below a story", run, 0, 0, 2, "................");
        dueColumn("a free page", run, 1, 0, 0, 0, 0, 0, 0, -1);
        dueColumn("a free page", run, 2, 1, 0, 0, 0, 0, 0, -1);
        dueInk("a free page", run, 2, 1, 4, "................");
        dueColumn("not planned", run.copy().read(), 0, 0, 0, 0, 0, 0, 0, -1);
        dueInk("not planned", run.copy().read(), 0, 0, 1, "................");
        dueColumn("a story that is held", oneOfEach().metric('d', 5).plan(), 0, 0, 0, 0, 0, 0, -1);
    }

    private static void cellWithNothing() {
        Replay run = planned(3, 5, "#1abc\n=22\nab\n");
        dueColumn("below a line", run, 0, 2, 180, 100, 90, 0, 0, -1);
        dueInk("below a line", run, 0, 2, 2, "................");
        Replay lines = planned(3, 6, "#1a\nab ab ab\n");
        dueColumn("a column that takes none", lines, 0, 1, 180, 90, 90, 90, 0, 0);
        dueInk("a column that takes none", lines, 0, 1, 1, "................");
        Replay jump = planned(2, 4, "#1a\nab\nab\nab ab\n" + lines(4));
        dueColumn("beside the sign of a second part", jump, 1, 1, 90, 106, 107, 0);
        dueColumn("between lines and sign", planned(1, 6, "#1a\n" + lines(3) + lines(3)), 0, 0, 180, 100, 101, 102, 90, 182);
        Replay second = planned(2, 6, "#1a\nab\n#1b\nab ab\n");
        dueColumn("of a second story too", second, 0, 1, 180, 90, 280, 90, 90, 0);
    }

    private static void cellOfALaterStory() {
        Replay run = planned(2, 16, "#1a\nab\nab\n#1b\n=11\nab\nab\n#1c\nab\n#1d\nab ab\n");
        dueColumn("stories 0 to 3", run, 0, 0, 180, 100, 280, 281, 200, 380, 300, 480, 400, 401, 0);
        dueColumn("stories 0 to 3", run, 0, 1, 180, 101, 280, 201, 90, 380, 90, 480, 90, 90, 0);
    }
}
