/** Answers worked out by hand, promise by promise, on fresh objects. */
public final class PromiseTest {
    private static int wrong = 0;

    private static void due(String what, int got, int want) {
        if (got != want) {
            wrong++;
            System.out.println(what + " answered " + got + ", due is " + want);
        }
    }

    private static void due(String what, boolean got, boolean want) {
        due(what, got ? 1 : 0, want ? 1 : 0);
    }

    public static void main(String[] args) {
        newObject();
        metric();
        pattern();
        patternRoom();
        cuts();
        feed();
        feedRoom();
        clear();
        read();
        readKeepsStories();
        faultInHead();
        faultInParts();
        faultOfTooMany();
        plan();
        planOrder();
        planAgain();
        held();
        heldForLength();
        lines();
        linesOfTheLongestParagraph();
        cost();
        costOfTies();
        partWhole();
        partFilled();
        partWithFigure();
        partJump();
        partJumpFromMiddle();
        partJumpFromTwoRows();
        partJumpWithFigure();
        cell();
        cellOfJump();
        inkOfLines();
        inkOfHeadline();
        inkOfOthers();
        System.out.println(wrong == 0 ? "all answers are as due" : wrong + " answers are not as due");
        if (wrong != 0) {
            System.exit(1);
        }
    }

    private static long pack(String bytes) {
        long packed = 0;
        for (int i = 0; i < bytes.length(); i++) {
            packed = packed << 8 | bytes.charAt(i);
        }
        return packed;
    }

    private static void feedAll(EditionGrid grid, String text) {
        for (int i = 0; i < text.length(); i += 8) {
            String piece = text.substring(i, Math.min(i + 8, text.length()));
            grid.feed(pack(piece), piece.length());
        }
    }

    /** A pattern written as 0h3y0: a value before each sign and behind the last one. */
    private static int pattern(EditionGrid grid, String written) {
        StringBuilder signs = new StringBuilder();
        StringBuilder values = new StringBuilder();
        for (int i = 0; i < written.length(); i++) {
            if (i % 2 == 1) {
                signs.append(written.charAt(i));
            } else {
                values.append((char) (written.charAt(i) - '0'));
            }
        }
        return grid.pattern(pack(signs.toString()), signs.length(), pack(values.toString()));
    }

    private static int cuts(EditionGrid grid, String word) {
        return grid.cuts(pack(word), word.length());
    }

    private static int readOf(String text) {
        EditionGrid grid = new EditionGrid(2, 8, 20);
        feedAll(grid, text);
        return grid.read();
    }

    private static int faultOf(String text) {
        EditionGrid grid = new EditionGrid(2, 8, 20);
        feedAll(grid, text);
        int stories = grid.read();
        due("read() of a text with a fault", stories > 0 ? 1 : stories, grid.fault() == -1 ? 1 : -1);
        return grid.fault();
    }

    private static EditionGrid planned(int columns, int rows, int width, String text) {
        EditionGrid grid = new EditionGrid(columns, rows, width);
        feedAll(grid, text);
        grid.read();
        grid.plan();
        return grid;
    }

    private static void duePart(EditionGrid grid, int story, int part, int... want) {
        for (int what = 0; what < want.length; what++) {
            due("part(" + story + ", " + part + ", " + what + ")", grid.part(story, part, what), want[what]);
        }
    }

    /** The cells of a column from its first row on. */
    private static void dueCells(EditionGrid grid, int page, int column, int... want) {
        for (int row = 0; row < want.length; row++) {
            due("cell(" + page + ", " + column + ", " + row + ")", grid.cell(page, column, row), want[row]);
        }
    }

    /** The units of a cell, written with . for 0. */
    private static void dueInk(EditionGrid grid, int page, int column, int row, String want) {
        StringBuilder got = new StringBuilder();
        for (int x = 0; x < want.length(); x++) {
            int ink = grid.ink(page, column, row, x);
            got.append(ink == 0 ? '.' : ink < 0 ? '!' : (char) ink);
        }
        if (!got.toString().equals(want)) {
            wrong++;
            System.out.println("ink in " + page + ", " + column + ", " + row + " is " + got + ", due is " + want);
        }
    }

    private static String times(String text, int n) {
        return text.repeat(n);
    }

    // Promise 1

    private static void dueSize(EditionGrid grid, int columns, int rows, int width) {
        due("last cell", grid.cell(2, columns - 1, rows - 1), 0);
        due("column behind", grid.cell(0, columns, 0), -1);
        due("row behind", grid.cell(0, 0, rows), -1);
        due("last unit", grid.ink(2, columns - 1, rows - 1, width - 1), 0);
        due("unit behind", grid.ink(0, 0, 0, width), -1);
    }

    private static void newObject() {
        dueSize(new EditionGrid(3, 10, 30), 3, 10, 30);
        dueSize(new EditionGrid(1, 4, 16), 1, 4, 16);
        dueSize(new EditionGrid(0, 3, 15), 1, 4, 16);
        dueSize(new EditionGrid(Integer.MIN_VALUE, -1, 0), 1, 4, 16);
        dueSize(new EditionGrid(4, 16, 60), 4, 16, 60);
        dueSize(new EditionGrid(5, 17, 61), 4, 16, 60);
        dueSize(new EditionGrid(9, Integer.MAX_VALUE, Integer.MAX_VALUE), 4, 16, 60);
        EditionGrid grid = new EditionGrid(2, 8, 20);
        due("cuts without patterns", cuts(grid, "abcdefgh"), 0);
        due("fault() before read()", grid.fault(), -1);
        due("plan() without stories", grid.plan(), -1);
        due("held() without stories", grid.held(0), -1);
        due("lines() without stories", grid.lines(0), -1);
        due("cost() without stories", grid.cost(0, 0), -1);
        due("part() without stories", grid.part(0, 0, 0), -1);
        due("clear() without text", grid.clear(), 0);
        due("the first pattern", pattern(grid, "0a1"), 1);
    }

    // Promise 2

    private static void metric() {
        EditionGrid grid = new EditionGrid(1, 4, 16);
        due("metric(a, 1)", grid.metric('a', 1), true);
        due("metric(z, 9)", grid.metric('z', 9), true);
        due("metric(a, 0)", grid.metric('a', 0), false);
        due("metric(a, 10)", grid.metric('a', 10), false);
        due("metric(a, -1)", grid.metric('a', -1), false);
        due("metric(`, 4)", grid.metric('`', 4), false);
        due("metric({, 4)", grid.metric('{', 4), false);
        due("metric(A, 4)", grid.metric('A', 4), false);
        due("metric(space, 4)", grid.metric(' ', 4), false);
        due("metric(0x161, 4)", grid.metric((char) 0x161, 4), false);
        feedAll(grid, "#1bz\nazb\n");
        grid.read();
        grid.plan();
        dueInk(grid, 0, 0, 0, "bbbbzzzzzzzzz...");
        dueInk(grid, 0, 0, 1, "azzzzzzzzzbbbb..");
        grid.metric('b', 2);
        dueInk(grid, 0, 0, 1, "azzzzzzzzzbbbb..");
        dueInk(grid, 0, 0, 0, "bbbbzzzzzzzzz...");
        grid.plan();
        dueInk(grid, 0, 0, 0, "bbzzzzzzzzz.....");
        dueInk(grid, 0, 0, 1, "azzzzzzzzzbb....");
        grid.metric('b', 7);
        due("held() before the next plan()", grid.held(0), 0);
        due("plan() with a word of 17 units", grid.plan(), 0);
        due("held() behind it", grid.held(0), 1);
    }

    // Promise 3

    private static void pattern() {
        EditionGrid grid = new EditionGrid(1, 4, 16);
        due("n = 0", grid.pattern('a', 0, 0), -1);
        due("n = -1", grid.pattern('a', -1, 0), -1);
        due("n = 7", grid.pattern(pack("abcdefg"), 7, 0), -1);
        due("a dot alone", pattern(grid, "0.0"), -1);
        due("two dots", pattern(grid, "0.0.0"), -1);
        due("a dot between", pattern(grid, "0a0.0b0"), -1);
        due("a dot in second place", pattern(grid, "0.0.0b0"), -1);
        due("a capital", pattern(grid, "0A1"), -1);
        due("a sign before a", pattern(grid, "0`1"), -1);
        due("a sign behind z", pattern(grid, "0{1"), -1);
        due("a value 10 at first", grid.pattern('a', 1, 0x0A00), -1);
        due("a value 10 at last", grid.pattern('a', 1, 0x000A), -1);
        due("a value 255", grid.pattern('a', 1, 0x00FF), -1);
        due("a sign 0", grid.pattern('a', 2, 0), -1);
        due("no pattern yet", pattern(grid, "9a9"), 1);
        due("dots at both ends", pattern(grid, "1.0a0.3"), 2);
        due("six signs", pattern(grid, "0.1a2b3c4d5.6"), 3);
        due("higher bytes do not count", grid.pattern(pack("xyza"), 1, 0x7F7F0001L), 3);
        due("all bytes set above", grid.pattern(-256L + 'b', 1, -65536L + 1), 4);
        due("cuts by a 1", cuts(grid, "ccaccc"), 8);
        due("the same signs again", pattern(grid, "0a2"), 4);
        due("cuts by a 2", cuts(grid, "ccaccc"), 0);
        due("the pattern for b", cuts(grid, "ccbccc"), 8);
        due("a refused one in place of it", grid.pattern('b', 1, 0x0A), -1);
        due("it is still there", cuts(grid, "ccbccc"), 8);
    }

    private static void patternRoom() {
        EditionGrid grid = new EditionGrid(1, 4, 16);
        for (int i = 0; i < 20; i++) {
            due("pattern " + i, grid.pattern('a' + i, 1, 0), i + 1);
        }
        due("a 21st", pattern(grid, "0z1"), -2);
        due("a 21st that is wrong", pattern(grid, "0Z1"), -1);
        due("a 21st with n = 0", grid.pattern('z', 0, 0), -1);
        due("the 21st does not count", cuts(grid, "zzzz"), 0);
        due("the last one anew", pattern(grid, "0t1"), 20);
        due("the first one anew", pattern(grid, "0a1"), 20);
        due("both count", cuts(grid, "tttt"), 4);
        due("both count", cuts(grid, "aaaa"), 4);
    }

    // Promise 4

    private static void cuts() {
        EditionGrid grid = new EditionGrid(1, 4, 16);
        due("n = 0", grid.cuts('a', 0), -1);
        due("n = -1", grid.cuts('a', -1), -1);
        due("n = 9", grid.cuts(pack("abcdefgh"), 9), -1);
        due("a byte 0", grid.cuts('a', 2), -1);
        due("a space", cuts(grid, "ab cd"), -1);
        due("a dot", cuts(grid, ".abcd"), -1);
        due("a sign before a", cuts(grid, "ab`d"), -1);
        due("a sign behind z", cuts(grid, "abc{"), -1);
        pattern(grid, "0a1");
        due("one letter", cuts(grid, "a"), 0);
        due("three letters", cuts(grid, "aaa"), 0);
        due("four letters", cuts(grid, "aaaa"), 4);
        due("five letters", cuts(grid, "aaaaa"), 12);
        due("eight letters", cuts(grid, "aaaaaaaa"), 4 + 8 + 16 + 32 + 64);
        due("higher bytes do not count", grid.cuts(pack("AAaaaa"), 4), 4);
        pattern(grid, "3b0");
        due("a value before a sign", cuts(grid, "cccbcc"), 8);
        pattern(grid, "0a2c0");
        due("the greater one counts", cuts(grid, "ccaccc"), 0);
        due("where it does not stand", cuts(grid, "ccaddd"), 8);
        pattern(grid, "0.0d0e5f0");
        due("at the begin of a word", cuts(grid, "defg"), 4);
        due("not within a word", cuts(grid, "gdefg"), 0);
        pattern(grid, "0h7i0j0.0");
        due("at the end of a word", cuts(grid, "gghij"), 8);
        due("not before the end", cuts(grid, "gghijg"), 0);
        pattern(grid, "0k1l0k1l0");
        due("at places that overlap", cuts(grid, "mklklklm"), 4 + 16 + 64);
        pattern(grid, "0.0n0o0p0q1.0");
        due("too near to the end", cuts(grid, "nopq"), 0);
        pattern(grid, "0s0t0u9v0w0x0");
        due("six letters", cuts(grid, "stuvwx"), 8);
        EditionGrid other = new EditionGrid(1, 4, 16);
        pattern(other, "0a3b0");
        pattern(other, "0a1b0c0");
        due("a lesser value that comes later", cuts(other, "cabc"), 4);
        pattern(other, "0c0a4b0");
        due("a greater value that comes later", cuts(other, "cabc"), 0);
    }

    // Promise 5

    private static void feed() {
        EditionGrid grid = new EditionGrid(1, 4, 16);
        due("n = 0", grid.feed('a', 0), -1);
        due("n = -1", grid.feed('a', -1), -1);
        due("n = 9", grid.feed(pack("abcdefgh"), 9), -1);
        due("9", grid.feed(9, 1), -1);
        due("11", grid.feed(11, 1), -1);
        due("31", grid.feed(31, 1), -1);
        due("127", grid.feed(127, 1), -1);
        due("255", grid.feed(255, 1), -1);
        due("a wrong first byte", grid.feed(0x7F61, 2), -1);
        due("a wrong last byte", grid.feed(0x6100, 2), -1);
        due("nothing was fed", grid.clear(), 0);
        due("10", grid.feed(10, 1), 1);
        due("32", grid.feed(32, 1), 2);
        due("126", grid.feed(126, 1), 3);
        due("eight", grid.feed(pack("abcdefgh"), 8), 11);
        due("higher bytes do not count", grid.feed(-256L + 'a', 1), 12);
        grid.clear();
        grid.feed(pack("#1ab\n"), 5);
        grid.feed(pack("ba\n"), 3);
        due("read() of what was fed", grid.read(), 1);
        grid.plan();
        dueInk(grid, 0, 0, 0, "aaaabbbb........");
        dueInk(grid, 0, 0, 1, "bbbbaaaa........");
    }

    private static void feedRoom() {
        EditionGrid grid = new EditionGrid(1, 4, 16);
        for (int i = 1; i <= 59; i++) {
            due("feed " + i, grid.feed(pack("aaaaaaaa"), 8), 8 * i);
        }
        due("four more", grid.feed(pack("aaaa"), 4), 476);
        due("five more", grid.feed(pack("aaaaa"), 5), -2);
        due("a wrong byte without room", grid.feed(pack("aaaa\t"), 5), -1);
        due("n = 9 without room", grid.feed(pack("aaaaaaaa"), 9), -1);
        due("up to 480", grid.feed(pack("aaaa"), 4), 480);
        due("a 481st", grid.feed('a', 1), -2);
        due("a wrong 481st", grid.feed(9, 1), -1);
        due("clear()", grid.clear(), 480);
        due("room again", grid.feed(pack("aaaaaaaa"), 8), 8);
    }

    // Promise 6

    private static void clear() {
        EditionGrid grid = planned(1, 4, 16, "#1ab\nba\n");
        due("clear()", grid.clear(), 8);
        due("clear() again", grid.clear(), 0);
        due("the stories stay", grid.held(0), 0);
        due("and can be planned", grid.plan(), 1);
        due("fed anew", grid.feed(pack("#"), 1), 1);
        due("read() of the new text", grid.read(), -1);
        due("its fault", grid.fault(), 1);
    }

    // Promise 7

    private static void read() {
        due("one story", readOf("#0a\nb\n"), 1);
        due("two stories", readOf("#0a\nb\n#9a\nb\n"), 2);
        due("four stories", readOf(times("#1a\nb\n", 4)), 4);
        due("five stories", readOf(times("#1a\nb\n", 5)), -1);
        due("a figure alone", readOf("#1a\n=99\n"), 1);
        due("four paragraphs, a figure between", readOf("#1a\nb\nb\n=11\nb\nb\n"), 1);
        due("a figure in each of two stories", readOf("#1a\n=11\n#1a\n=11\n"), 2);
        due("twelve letters", readOf("#1abcdefghijkl\nabcdefghijkl\n"), 1);
        due("four words in a headline", readOf("#1a b c d\na\n"), 1);
        due("16 words in a paragraph", readOf("#1a\na" + times(" a", 15) + "\n"), 1);
        due("four paragraphs in each of two stories", readOf(times("#1a\nb\nb\nb\nb\n", 2)), 2);
    }

    private static void readKeepsStories() {
        EditionGrid grid = planned(1, 8, 16, "#1a\nb\n");
        due("fault() without one", grid.fault(), -1);
        feedAll(grid, "#1c\nd\n");
        due("the plan stays", grid.held(0), 0);
        due("plan() before read()", grid.plan(), 1);
        due("there is no second story", grid.held(1), -1);
        due("the text stayed", grid.read(), 2);
        due("it is not planned", grid.held(0), -1);
        due("no lines", grid.lines(0), -1);
        due("no cost", grid.cost(0, 0), -1);
        due("no part", grid.part(0, 0, 0), -1);
        due("all cells are free", grid.cell(0, 0, 0), 0);
        due("nothing is seen", grid.ink(0, 0, 0, 0), 0);
        due("plan()", grid.plan(), 2);
        grid.feed(' ', 1);
        due("a fault", grid.read(), -1);
        due("all cells are free", grid.cell(0, 0, 0), 0);
        due("nothing is seen", grid.ink(0, 0, 1, 0), 0);
        due("there are no stories", grid.held(0), -1);
        due("nothing to plan", grid.plan(), -1);
        grid.clear();
        feedAll(grid, "#1a\nb\n=11\n");
        due("a text with a figure", grid.read(), 1);
        grid.clear();
        feedAll(grid, "#2a\nxyz\n");
        grid.plan();
        dueInk(grid, 0, 0, 2, "bbbb............");
        due("a text without one", grid.read(), 1);
        grid.plan();
        dueCells(grid, 0, 0, 180, 100, 0);
        dueInk(grid, 0, 0, 1, "xxxxyyyyzzzz....");
    }

    // Promise 8

    private static void faultInHead() {
        due("an empty text", faultOf(""), 0);
        due("no #", faultOf("a"), 0);
        due("a line end at first", faultOf("\n#1a\nb\n"), 0);
        due("no digit", faultOf("#a"), 1);
        due("a sign before 0", faultOf("#/a\n"), 1);
        due("a sign behind 9", faultOf("#:a\n"), 1);
        due("the text ends behind #", faultOf("#"), 1);
        due("the text ends behind the digit", faultOf("#1"), 2);
        due("no headline", faultOf("#1\na\n"), 2);
        due("a space before the headline", faultOf("#1 a\nb\n"), 2);
        due("a second digit", faultOf("#11a\nb\n"), 2);
        due("the text ends in the headline", faultOf("#1ab"), 4);
        due("a space behind the headline", faultOf("#1a \nb\n"), 4);
        due("the text ends behind a space", faultOf("#1a "), 4);
        due("a capital", faultOf("#1aB\nb\n"), 3);
        due("two spaces", faultOf("#1a  b\nb\n"), 4);
        due("13 letters", faultOf("#1abcdefghijklm\nb\n"), 14);
        due("13 letters in a second word", faultOf("#1a abcdefghijklm\nb\n"), 16);
        due("no part", faultOf("#1a\n"), 4);
        due("a story behind a headline", faultOf("#1a\n#1b\nc\n"), 4);
    }

    private static void faultInParts() {
        due("an empty paragraph", faultOf("#1a\n\n"), 4);
        due("a digit", faultOf("#1a\n1\n"), 4);
        due("a space before a paragraph", faultOf("#1a\n b\n"), 4);
        due("a space behind a paragraph", faultOf("#1a\nb \n"), 6);
        due("two spaces", faultOf("#1a\nb  c\n"), 6);
        due("no line end", faultOf("#1a\nb"), 5);
        due("a # in a paragraph", faultOf("#1a\nb#1a\nb\n"), 5);
        due("a = in a paragraph", faultOf("#1a\nb=11\n"), 5);
        due("a hyphen", faultOf("#1a\nb-c\n"), 5);
        due("13 letters", faultOf("#1a\nabcdefghijklm\n"), 16);
        due("a line end too many", faultOf("#1a\nb\n\n"), 6);
        due("a figure without digits", faultOf("#1a\n=\n"), 5);
        due("a figure with a 0", faultOf("#1a\n=01\n"), 5);
        due("a figure with a second 0", faultOf("#1a\n=10\n"), 6);
        due("a figure with one digit", faultOf("#1a\n=1\n"), 6);
        due("a figure with three digits", faultOf("#1a\n=111\n"), 7);
        due("a space behind a figure", faultOf("#1a\n=11 \n"), 7);
        due("the text ends behind =", faultOf("#1a\n="), 5);
        due("the text ends behind a digit", faultOf("#1a\n=1"), 6);
        due("the text ends behind a figure", faultOf("#1a\n=11"), 7);
        due("a fault in a second story", faultOf("#1a\nb\n#1a\nb\n="), 13);
        due("the text ends in a second story", faultOf("#1a\nb\n#"), 7);
        due("no fault", faultOf("#1a\nb\n"), -1);
    }

    private static void faultOfTooMany() {
        due("a fifth word in a headline", faultOf("#1a b c d e\nb\n"), 10);
        due("a space behind the fourth one", faultOf("#1a b c d "), 10);
        due("a line end behind that", faultOf("#1a b c d \n"), 10);
        due("a 17th word", faultOf("#1a\na" + times(" a", 16) + "\n"), 36);
        due("a fifth paragraph", faultOf("#1a\nb\nb\nb\nb\nb\n"), 12);
        due("a fifth paragraph behind a figure", faultOf("#1a\nb\nb\n=11\nb\nb\nb\n"), 16);
        due("a second figure", faultOf("#1a\n=11\n=11\n"), 8);
        due("a second figure behind a paragraph", faultOf("#1a\n=11\nb\n=11\n"), 10);
        due("a fifth story", faultOf(times("#1a\nb\n", 5)), 24);
        due("a second # behind four stories", faultOf(times("#1a\nb\n", 4) + "#"), 24);
        due("a sign behind four stories", faultOf(times("#1a\nb\n", 4) + "!"), 24);
        EditionGrid grid = new EditionGrid(1, 4, 16);
        feedAll(grid, "#1a\nb");
        grid.read();
        due("fault()", grid.fault(), 5);
        grid.feed(10, 1);
        due("fault() before the next read()", grid.fault(), 5);
        grid.plan();
        grid.read();
        due("fault() behind a right one", grid.fault(), -1);
    }

    // Promise 9

    private static void plan() {
        EditionGrid grid = new EditionGrid(1, 4, 16);
        due("plan() without stories", grid.plan(), -1);
        feedAll(grid, "#1a\nabcd\nabcd\n#1b\nabcd\nabcd\n#1c\nabcde\n#1d\nabcd\n");
        due("plan() before read()", grid.plan(), -1);
        grid.read();
        due("plan()", grid.plan(), 3);
        duePart(grid, 0, 0, 0, 0, 0, 1, 3);
        duePart(grid, 1, 0, 1, 0, 0, 1, 3);
        due("held(2)", grid.held(2), 1);
        duePart(grid, 3, 0, 2, 0, 0, 1, 2);
        pattern(grid, "0b1c0");
        due("patterns count at the next plan()", grid.held(2), 1);
        due("plan() with the pattern", grid.plan(), 3);
        duePart(grid, 2, 0, 2, 0, 0, 1, 3);
        due("no place is left then", grid.held(3), 3);
        duePart(grid, 3, 0, -1);
    }

    private static void planOrder() {
        EditionGrid grid = planned(1, 16, 16, "#0a\nab\n#5b\nab\n#9c\nab\n#5d\nab\n");
        due("greatest first", grid.part(2, 0, 2), 0);
        due("the first of equal ones", grid.part(1, 0, 2), 2);
        due("the second of equal ones", grid.part(3, 0, 2), 4);
        due("the least one", grid.part(0, 0, 2), 6);
        grid = planned(1, 5, 16, "#1a\nab\nab\n#1b\nab\nab\n#1c\nab\n");
        due("the first story", grid.part(0, 0, 2), 0);
        due("the second one goes to a new page", grid.part(1, 0, 0), 1);
        due("the third one goes to the first free place", grid.part(2, 0, 0), 0);
        due("below the first one", grid.part(2, 0, 2), 3);
    }

    private static void planAgain() {
        EditionGrid grid = planned(1, 4, 16, "#1a\nab\nab\n");
        due("plan() again", grid.plan(), 1);
        duePart(grid, 0, 0, 0, 0, 0, 1, 3, 0, 2, 2, 0, 0, 0, -1);
        dueCells(grid, 0, 0, 180, 100, 101, 0);
        grid.metric('a', 1);
        grid.metric('b', 1);
        feedAll(grid, "#2c\nab\n");
        grid.read();
        due("plan() of two stories", grid.plan(), 2);
        dueCells(grid, 0, 0, 280, 200, 0, 0);
        dueCells(grid, 1, 0, 180, 100, 101, 0);
    }

    // Promise 10

    private static void held() {
        EditionGrid grid = planned(2, 4, 16, "#1a\nabcde\nab\n#1b\n=11\n#1c\n=31\nab\n#1d\nabcd\n");
        due("a word that is too wide", grid.held(0), 1);
        due("no lines", grid.held(1), 2);
        due("a figure that is too wide", grid.held(2), 3);
        due("one behind a story that has a place", planned(2, 4, 16, "#1a\nab\n#1b\n=31\nab\n").held(1), 3);
        due("not held", grid.held(3), 0);
        due("no such story", grid.held(4), -1);
        due("no such story", grid.held(-1), -1);
        due("no such story", grid.held(Integer.MAX_VALUE), -1);
        due("no such story", grid.held(Integer.MIN_VALUE), -1);
        grid = planned(1, 4, 16, "#1a\n=13\nab\n#1b\n=12\nab\n#1c\n=19\nab\n");
        due("a figure that leaves no row", grid.held(0), 3);
        due("a figure that leaves one row", grid.held(1), 0);
        due("a figure higher than the page", grid.held(2), 3);
        grid = planned(1, 4, 16, "#1a\nab\nab\nab ab ab ab\n#1b\nab ab ab ab ab\n#1c\nab ab ab ab\n");
        due("a rest of 4 lines does not go on a page", grid.held(0), 3);
        due("a rest of 3 lines does", grid.held(1), 0);
        due("part 0 leaves no row, and page 2 is behind all", grid.held(2), 3);
    }

    private static void heldForLength() {
        String fifteen = "ab" + times(" ab", 14) + "\n";
        String ten = "ab" + times(" ab", 9) + "\n";
        EditionGrid grid = planned(4, 16, 16, "#1a\n" + fifteen + fifteen + ten);
        due("40 lines", grid.lines(0), 40);
        due("are not too many", grid.held(0), 0);
        duePart(grid, 0, 0, 0, 0, 0, 4, 11, 0, 40, 10, 10, 10, 10);
        grid = planned(4, 16, 16, "#1a\n" + fifteen + fifteen + ten + "ab\n");
        due("41 lines", grid.lines(0), 41);
        due("are too many", grid.held(0), 2);
        due("they have a cost", grid.cost(0, 0), 14 * 64);
        due("they have no part", grid.part(0, 0, 0), -1);
        grid = planned(4, 16, 16, "#1a\n" + fifteen + fifteen + ten + "ab\n" + "#1b\nabcde\n#1c\nab\n");
        due("a story behind two that are held", grid.part(2, 0, 2), 0);
        grid = planned(4, 16, 16, "#1a\n" + fifteen + fifteen + fifteen + "abcde\n");
        due("reason 1 comes before reason 2", grid.held(0), 1);
    }

    // Promise 11

    private static void lines() {
        EditionGrid grid = planned(1, 4, 19, "#1a\nab cd ef\nab\n#1b\nabcdefgh\nab\n#1c\n=11\n#1d\n=99\nab ab ab\n");
        due("lines of two paragraphs", grid.lines(0), 3);
        due("of a story held for 1", grid.lines(1), 0);
        due("of a story held for 2", grid.lines(2), 0);
        due("of a story held for 3", grid.lines(3), 2);
        due("of none", grid.lines(4), -1);
        due("of none", grid.lines(-1), -1);
        grid = planned(1, 4, 18, "#1a\nab cd ef\nab\n");
        due("with a unit less", grid.lines(0), 4);
    }

    private static void linesOfTheLongestParagraph() {
        String longest = "abcdefghijkl" + times(" abcdefghijkl", 15);
        EditionGrid grid = planned(4, 16, 60, "#1a\n" + longest + "\n" + longest + "\n");
        due("a word a line", grid.lines(0), 32);
        due("with 12 units left", grid.cost(0, 1), 15 * 144);
        for (char letter = 'a'; letter <= 'l'; letter++) {
            grid.metric(letter, 1);
        }
        pattern(grid, "0j1k0");
        grid.plan();
        due("four words a line", grid.lines(0), 8);
        due("with 3 units left", grid.cost(0, 1), 27);
        dueInk(grid, 0, 0, 1, "abcdefghijkl....abcdefghijkl....abcdefghijkl....abcdefghijkl");
    }

    // Promise 12

    private static void cost() {
        EditionGrid grid = planned(1, 16, 20, "#1a\nab cd ef\nabcdef\nab\nab cd e ab cd e ab\n");
        due("19 and 8 units", grid.cost(0, 0), 1);
        due("a word that is too wide", grid.cost(0, 1), -1);
        due("one line", grid.cost(0, 2), 0);
        due("a cost beside one that cannot be broken", grid.held(0), 1);
        due("ab cd / e ab / cd e / ab", grid.cost(0, 3), 1 + 25 + 25);
        due("no such paragraph", grid.cost(0, 4), -1);
        due("no such paragraph", grid.cost(0, -1), -1);
        due("no such story", grid.cost(1, 0), -1);
        due("no such story", grid.cost(-1, 0), -1);
        pattern(grid, "0c1d0");
        due("before plan()", grid.cost(0, 1), -1);
        grid.plan();
        due("abc- / def", grid.cost(0, 1), 36 + 100);
        due("nothing else is cut", grid.cost(0, 0), 1);
        due("no such paragraph", planned(1, 4, 16, "#1a\nb\n").cost(0, 1), -1);
        grid = new EditionGrid(1, 16, 42);
        pattern(grid, "0j1k0");
        feedAll(grid, "#1a\nabcdefghijkl\n");
        grid.read();
        grid.plan();
        due("a cut behind the tenth letter, full", grid.cost(0, 0), 100);
        grid = new EditionGrid(1, 16, 41);
        pattern(grid, "0j1k0");
        feedAll(grid, "#1a\nabcdefghijkl\n");
        grid.read();
        grid.plan();
        due("a unit less than the hyphen needs", grid.cost(0, 0), -1);
    }

    private static void costOfTies() {
        EditionGrid grid = planned(1, 16, 16, "#1a\naa b aa dd\n");
        due("aa b / aa / dd costs as much as aa / b aa / dd", grid.cost(0, 0), 65);
        dueInk(grid, 0, 0, 1, "aaaaaaaa....bbbb");
        dueInk(grid, 0, 0, 2, "aaaaaaaa........");
        grid = new EditionGrid(1, 16, 19);
        pattern(grid, "0b1c0");
        feedAll(grid, "#1a\na bbcc\n");
        grid.read();
        grid.plan();
        due("a cut for 104 in place of a word alone for 225", grid.cost(0, 0), 104);
        dueInk(grid, 0, 0, 1, "aaaa.....bbbbbbbb--");
        dueInk(grid, 0, 0, 2, "cccccccc...........");
        grid = new EditionGrid(1, 16, 26);
        pattern(grid, "0b1c0");
        feedAll(grid, "#1a\naaaa bbccdd\n");
        grid.read();
        grid.plan();
        due("no cut for 100 where it costs as much or more", grid.cost(0, 0), 100);
        dueInk(grid, 0, 0, 1, "aaaaaaaaaaaaaaaa..........");
    }

    // Promise 13

    private static void partWhole() {
        EditionGrid grid = planned(3, 6, 16, "#1a\nab\nab\nab\nab\n#1b\nab\n");
        duePart(grid, 0, 0, 0, 0, 0, 3, 3, 0, 4, 2, 2, 0, 0, -1);
        duePart(grid, 1, 0, 0, 0, 3, 3, 2, 0, 1, 1, 0, 0, 0, -1);
        due("what = -1", grid.part(0, 0, -1), -1);
        due("what = 11", grid.part(0, 0, 11), -1);
        due("a great what", grid.part(0, 0, Integer.MAX_VALUE), -1);
        due("a small what", grid.part(0, 0, Integer.MIN_VALUE), -1);
        due("part 1", grid.part(0, 1, 0), -1);
        due("part -1", grid.part(0, -1, 0), -1);
        due("part 2", grid.part(0, 2, 0), -1);
        due("story -1", grid.part(-1, 0, 0), -1);
        due("story 2", grid.part(2, 0, 0), -1);
        duePart(planned(4, 6, 16, "#1a\nab\nab\nab\nab\n"), 0, 0, 0, 0, 0, 4, 2, 0, 4, 1, 1, 1, 1);
        duePart(planned(1, 6, 16, "#1a\nab\nab\nab\nab\n"), 0, 0, 0, 0, 0, 1, 5, 0, 4, 4, 0, 0, 0);
    }

    private static void partFilled() {
        String three = "ab ab ab\n";
        duePart(planned(2, 8, 16, "#1a\n" + three), 0, 0, 0, 0, 0, 2, 4, 0, 3, 3, 0);
        duePart(planned(2, 8, 16, "#1a\nab ab\n"), 0, 0, 0, 0, 0, 2, 3, 0, 2, 2, 0);
        duePart(planned(2, 8, 16, "#1a\nab ab ab ab\n"), 0, 0, 0, 0, 0, 2, 3, 0, 4, 2, 2);
        duePart(planned(2, 8, 16, "#1a\nab ab ab ab ab\n"), 0, 0, 0, 0, 0, 2, 4, 0, 5, 3, 2);
        duePart(planned(2, 8, 16, "#1a\nab\n" + three), 0, 0, 0, 0, 0, 2, 4, 0, 4, 1, 3);
        duePart(planned(2, 8, 16, "#1a\n" + three + "ab\n"), 0, 0, 0, 0, 0, 2, 4, 0, 4, 3, 1);
        duePart(planned(3, 8, 16, "#1a\n" + three + three), 0, 0, 0, 0, 0, 3, 4, 0, 6, 3, 3, 0);
        duePart(planned(3, 8, 16, "#1a\nab ab\nab\n" + three), 0, 0, 0, 0, 0, 3, 4, 0, 6, 3, 3, 0);
        duePart(planned(3, 8, 16, "#1a\nab ab\nab ab\nab\n"), 0, 0, 0, 0, 0, 3, 3, 0, 5, 2, 2, 1);
        duePart(planned(3, 8, 16, "#1a\nab\nab ab\nab ab\n"), 0, 0, 0, 0, 0, 3, 3, 0, 5, 1, 2, 2);
    }

    private static void partWithFigure() {
        EditionGrid grid = planned(2, 6, 16, "#1a\n=12\nab\nab\nab\n");
        duePart(grid, 0, 0, 0, 0, 0, 2, 4, 0, 3, 1, 2, 0, 0);
        grid = planned(2, 6, 16, "#1a\nab\nab\n=12\n");
        duePart(grid, 0, 0, 0, 0, 0, 2, 3, 0, 2, 0, 2, 0, 0);
        grid = planned(2, 6, 16, "#1a\nab\n=21\n");
        duePart(grid, 0, 0, 0, 0, 0, 2, 3, 0, 1, 1, 0, 0, 0);
        grid = planned(3, 6, 16, "#1a\nab\n=24\n");
        duePart(grid, 0, 0, 0, 0, 0, 3, 5, 0, 1, 0, 0, 1, 0);
        grid = planned(3, 6, 16, "#1a\nab ab\n=22\nab ab\n");
        duePart(grid, 0, 0, 0, 0, 0, 3, 5, 0, 4, 2, 2, 0, 0);
    }

    private static void partJump() {
        EditionGrid grid = planned(1, 4, 16, "#1a\nab\nab\nab\nab\n");
        duePart(grid, 0, 0, 0, 0, 0, 1, 4, 0, 2, 2, 0, 0, 0, -1);
        duePart(grid, 0, 1, 1, 0, 0, 1, 3, 2, 2, 2, 0, 0, 0, -1);
        due("there is no part 2", grid.part(0, 2, 0), -1);
        grid = planned(2, 4, 16, "#1a\nab\nab\nab ab\nab ab ab ab\n");
        duePart(grid, 0, 0, 0, 0, 0, 2, 4, 0, 4, 2, 2, 0, 0);
        duePart(grid, 0, 1, 1, 0, 0, 2, 3, 4, 4, 2, 2, 0, 0);
        grid = planned(2, 4, 16, "#1a\nab\nab ab ab\nab ab ab ab\n");
        due("no m fills 3 and 2 without a bad break", grid.held(0), 3);
    }

    private static void partJumpFromMiddle() {
        EditionGrid grid = planned(1, 6, 16, "#9a\nab\n#1b\nab ab\nab ab\nab ab\n");
        duePart(grid, 0, 0, 0, 0, 0, 1, 2);
        duePart(grid, 1, 0, 0, 0, 2, 1, 4, 0, 2, 2, 0, 0, 0);
        duePart(grid, 1, 1, 1, 0, 0, 1, 5, 2, 4, 4, 0, 0, 0);
        grid = planned(1, 4, 16, "#9a\nab\nab\nab\n#1b\nab ab ab ab\n");
        duePart(grid, 1, 0, 1, 0, 0, 1, 4, 0, 2, 2, 0, 0, 0);
        duePart(grid, 1, 1, 2, 0, 0, 1, 3, 2, 2, 2, 0, 0, 0);
        grid = planned(1, 5, 16, "#1a\nab\nab ab ab\nab\n");
        due("each m would be a bad break or leave one line", grid.held(0), 3);
        grid = planned(1, 5, 16, "#1a\nab\nab\nab ab ab\n");
        duePart(grid, 0, 0, 0, 0, 0, 1, 5, 0, 2, 2);
        duePart(grid, 0, 1, 1, 0, 0, 1, 4, 2, 3, 3);
        grid = planned(1, 6, 16, "#1a\nab ab ab\nab ab ab\n");
        duePart(grid, 0, 0, 0, 0, 0, 1, 6, 0, 3, 3);
    }

    private static void partJumpFromTwoRows() {
        EditionGrid grid = planned(3, 4, 16, "#9a\nab\n#1b\nab\nab\nab" + times(" ab", 7) + "\n");
        duePart(grid, 1, 0, 0, 0, 2, 3, 2, 0, 2, 1, 1, 0, 0);
        duePart(grid, 1, 1, 1, 0, 0, 3, 4, 2, 8, 3, 3, 2, 0);
        dueCells(grid, 0, 1, 180, 90, 280, 201);
        dueCells(grid, 0, 2, 180, 90, 280, 282);
    }

    private static void partJumpWithFigure() {
        EditionGrid grid = planned(2, 5, 16, "#1a\n=12\nab\nab\nab ab ab\nab ab ab ab\n");
        duePart(grid, 0, 0, 0, 0, 0, 2, 5, 0, 5, 2, 3);
        duePart(grid, 0, 1, 1, 0, 0, 2, 3, 5, 4, 2, 2);
        grid = planned(1, 6, 16, "#1a\n=12\nab\nab\nab\nab\n");
        duePart(grid, 0, 0, 0, 0, 0, 1, 6, 0, 2, 2);
        duePart(grid, 0, 1, 1, 0, 0, 1, 3, 2, 2, 2);
        grid = planned(1, 6, 16, "#1a\n=13\nab\nab\nab\nab\n");
        due("a figure that leaves one line beside the sign", grid.held(0), 3);
    }

    // Promise 14

    private static void cell() {
        EditionGrid grid = planned(2, 6, 16, "#1a\nab\n#2b\n=12\nab\nab\nab\n");
        dueCells(grid, 0, 0, 280, 281, 281, 200, 180, 100, -1);
        dueCells(grid, 0, 1, 280, 201, 202, 90, 180, 90, -1);
        dueCells(grid, 1, 0, 0, 0, 0, 0, 0, 0, -1);
        due("no such page", grid.cell(-1, 0, 0), -1);
        due("no such page", grid.cell(3, 0, 0), -1);
        due("no such column", grid.cell(0, -1, 0), -1);
        due("no such column", grid.cell(0, 2, 0), -1);
        due("no such row", grid.cell(0, 0, -1), -1);
        due("no such row", grid.cell(0, 0, 6), -1);
        due("no such cell", grid.cell(Integer.MIN_VALUE, Integer.MAX_VALUE, Integer.MAX_VALUE), -1);
        grid = planned(3, 6, 16, "#1a\n=24\nab\n");
        dueCells(grid, 0, 0, 180, 181, 181, 181, 181, 0);
        dueCells(grid, 0, 1, 180, 181, 181, 181, 181, 0);
        dueCells(grid, 0, 2, 180, 100, 90, 90, 90, 0);
    }

    private static void cellOfJump() {
        EditionGrid grid = planned(2, 5, 16, "#1a\n=12\nab\nab\nab ab ab\nab ab ab ab\n");
        dueCells(grid, 0, 0, 180, 181, 181, 100, 101);
        dueCells(grid, 0, 1, 180, 102, 103, 104, 182);
        dueCells(grid, 1, 0, 183, 105, 106, 0, 0);
        dueCells(grid, 1, 1, 90, 107, 108, 0, 0);
        dueCells(grid, 2, 0, 0, 0, 0, 0, 0);
        grid = planned(1, 6, 16, "#1a\nab ab ab\nab ab ab\n");
        dueCells(grid, 0, 0, 180, 100, 101, 102, 90, 182);
        dueCells(grid, 1, 0, 183, 103, 104, 105, 0, 0);
        dueInk(grid, 0, 0, 4, "................");
    }

    // Promise 15

    private static void inkOfLines() {
        EditionGrid grid = planned(1, 8, 21, "#1a\na b c dddd\na b\n");
        dueInk(grid, 0, 0, 1, "aaaa.....bbbb....cccc");
        dueInk(grid, 0, 0, 2, "dddddddddddddddd.....");
        dueInk(grid, 0, 0, 3, "aaaa...bbbb..........");
        dueInk(grid, 0, 0, 4, ".....................");
        due("x = -1", grid.ink(0, 0, 1, -1), -1);
        due("x = 21", grid.ink(0, 0, 1, 21), -1);
        due("a great x", grid.ink(0, 0, 1, Integer.MAX_VALUE), -1);
        due("no such page", grid.ink(3, 0, 1, 0), -1);
        due("no such page", grid.ink(-1, 0, 1, 0), -1);
        due("no such column", grid.ink(0, 1, 1, 0), -1);
        due("no such column", grid.ink(0, -1, 1, 0), -1);
        due("no such row", grid.ink(0, 0, 8, 0), -1);
        due("no such row", grid.ink(0, 0, -1, 0), -1);
        grid = new EditionGrid(1, 8, 22);
        pattern(grid, "0d1e0");
        feedAll(grid, "#1a\na b ddeeeee\ndddeee\n");
        grid.read();
        grid.plan();
        dueInk(grid, 0, 0, 1, "aaaa..............bbbb");
        dueInk(grid, 0, 0, 2, "dddddddd--............");
        dueInk(grid, 0, 0, 3, "eeeeeeeeeeeeeeeeeeee..");
        dueInk(grid, 0, 0, 4, "dddddddddddd--........");
        dueInk(grid, 0, 0, 5, "eeeeeeeeeeee..........");
    }

    private static void inkOfHeadline() {
        EditionGrid grid = planned(2, 8, 16, "#1abc de fgh ijkl\nab\n");
        dueInk(grid, 0, 0, 0, "aaaabbbbcccc...d");
        dueInk(grid, 0, 1, 0, "dddeeee...ffffgg");
        dueInk(planned(1, 8, 16, "#1abc de\nab\n"), 0, 0, 0, "aaaabbbbcccc...d");
        dueInk(planned(3, 8, 16, "#1ab cd\nab\n"), 0, 0, 0, "aaaabbbb...ccccd");
        dueInk(planned(3, 8, 16, "#1ab cd\nab\n"), 0, 1, 0, "ddd.............");
        dueInk(planned(3, 8, 16, "#1ab cd\nab\n"), 0, 2, 0, "................");
    }

    private static void inkOfOthers() {
        EditionGrid grid = planned(2, 5, 16, "#1a\n=12\nab\nab\nab ab ab\nab ab ab ab\n");
        dueInk(grid, 0, 0, 1, "################");
        dueInk(grid, 0, 0, 2, "################");
        dueInk(grid, 0, 0, 3, "aaaabbbb........");
        dueInk(grid, 0, 1, 4, ">2..............");
        dueInk(grid, 1, 0, 0, "<1..............");
        dueInk(grid, 1, 1, 0, "................");
        dueInk(grid, 2, 0, 0, "................");
        grid = planned(1, 4, 16, "#9a\nab\nab\nab\n#1b\nab ab ab ab\n");
        dueInk(grid, 1, 0, 3, ">3..............");
        dueInk(grid, 2, 0, 0, "<2..............");
    }
}
