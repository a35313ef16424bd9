/**
 * The edges of what goes in: promises 1 to 8 and the terms they rest on. A method for each sentence
 * that names an edge: the last input that is taken, the first one that is refused, what the refused
 * call answers, and that it changed nothing.
 */
public final class InputBoundaryTest {
    private static final Verdict VERDICT = new Verdict();
    private static final int[] FAR = {Integer.MIN_VALUE, Integer.MIN_VALUE + 1, -256, Integer.MAX_VALUE};
    private static final String STORY = "#1a\nb\n";

    public static void main(String[] args) {
        promise1();
        promise2();
        promise3();
        promise4();
        promise5();
        promise6();
        promise7();
        promise8();
        VERDICT.end();
    }

    private static void promise1() {
        columnsBelowAndAbove();
        rowsBelowAndAbove();
        widthBelowAndAbove();
        newObjectIsEmpty();
        firstWidths();
    }

    private static void promise2() {
        metricOfNoLetter();
        metricOfNoWidth();
        metricCountsAtTheNextPlan();
    }

    private static void promise3() {
        patternOfNoLength();
        patternSigns();
        patternDots();
        patternDotsAlone();
        patternValues();
        patternOfTheSameSigns();
        patternTwentyFirst();
        patternTwentyAndTheSameSigns();
        patternBytesAbove();
    }

    private static void promise4() {
        cutsOfNoLength();
        cutsOfNoLetter();
        cutsNearTheEnds();
        cutsOfTheGreatestValue();
        cutsOfDottedPatterns();
        cutsOfTheLongestWord();
        cutsInAParagraph();
        cutsOneAfterTheOther();
    }

    private static void promise5() {
        feedOfNoLength();
        feedOfNoCharacter();
        feedOfJustTheMost();
        feedOfOneTooMany();
        feedRefusedForTwoReasons();
        feedBytesAbove();
    }

    private static void promise6() {
        clearOfNothing();
        clearOfTheMost();
        clearLeavesTheRest();
    }

    private static void promise7() {
        readOfNothing();
        readKeepsTheText();
        readPlansNothing();
        readTakesTheOldStoriesAway();
        readWithAFault();
        readOfTheMost();
    }

    private static void promise8() {
        faultBeforeARead();
        faultOfTheLatestRead();
        faultStays();
        faultAtEachCharacter();
        faultOfAThirteenthLetter();
        faultOfAFifthHeadlineWord();
        faultOfASeventeenthWord();
        faultOfAFifthParagraph();
        faultOfASecondFigure();
        faultOfAFifthStory();
        faultBehindTheText();
    }

    // Promise 1

    private static void dueLast(String what, Replay run, int columns, int rows, int width) {
        VERDICT.due(what + ": last cell", run.ask(g -> g.cell(2, columns - 1, rows - 1)), 0);
        VERDICT.due(what + ": column behind", run.ask(g -> g.cell(2, columns, rows - 1)), -1);
        VERDICT.due(what + ": row behind", run.ask(g -> g.cell(2, columns - 1, rows)), -1);
        VERDICT.due(what + ": last unit", run.ask(g -> g.ink(2, columns - 1, rows - 1, width - 1)), 0);
        VERDICT.due(what + ": unit behind", run.ask(g -> g.ink(2, columns - 1, rows - 1, width)), -1);
    }

    private static Replay fullOf(int columns, int rows, int width) {
        return Replay.planned(columns, rows, width, "#1abcd efgh ijkl\nab ab ab ab ab ab ab ab ab ab\nab\n#2b\n=12\nab ab ab\nab ab ab\n");
    }

    private static void columnsBelowAndAbove() {
        for (int columns = 1; columns <= 4; columns++) {
            dueLast("columns " + columns, new Replay(columns, 8, 20), columns, 8, 20);
        }
        for (int low : new int[] {0, -1, Integer.MIN_VALUE}) {
            dueLast("columns " + low, new Replay(low, 8, 20), 1, 8, 20);
            VERDICT.same("columns " + low, fullOf(low, 8, 20), fullOf(1, 8, 20));
        }
        for (int high : new int[] {5, 6, Integer.MAX_VALUE}) {
            dueLast("columns " + high, new Replay(high, 8, 20), 4, 8, 20);
            VERDICT.same("columns " + high, fullOf(high, 8, 20), fullOf(4, 8, 20));
        }
    }

    private static void rowsBelowAndAbove() {
        for (int rows : new int[] {4, 5, 15, 16}) {
            dueLast("rows " + rows, new Replay(2, rows, 20), 2, rows, 20);
        }
        for (int low : new int[] {3, 0, -1, Integer.MIN_VALUE}) {
            dueLast("rows " + low, new Replay(2, low, 20), 2, 4, 20);
            VERDICT.same("rows " + low, fullOf(2, low, 20), fullOf(2, 4, 20));
        }
        for (int high : new int[] {17, 18, Integer.MAX_VALUE}) {
            dueLast("rows " + high, new Replay(2, high, 20), 2, 16, 20);
            VERDICT.same("rows " + high, fullOf(2, high, 20), fullOf(2, 16, 20));
        }
    }

    private static void widthBelowAndAbove() {
        for (int width : new int[] {16, 17, 59, 60}) {
            dueLast("width " + width, new Replay(2, 8, width), 2, 8, width);
        }
        for (int low : new int[] {15, 0, -1, Integer.MIN_VALUE}) {
            dueLast("width " + low, new Replay(2, 8, low), 2, 8, 16);
            VERDICT.same("width " + low, fullOf(2, 8, low), fullOf(2, 8, 16));
        }
        for (int high : new int[] {61, 62, Integer.MAX_VALUE}) {
            dueLast("width " + high, new Replay(2, 8, high), 2, 8, 60);
            VERDICT.same("width " + high, fullOf(2, 8, high), fullOf(2, 8, 60));
        }
    }

    private static void newObjectIsEmpty() {
        Replay run = new Replay(2, 8, 20);
        VERDICT.due("no patterns: the first one", run.ask(g -> Replay.pattern(g, "0a1")), 1);
        VERDICT.due("no patterns: no cuts", run.ask(g -> Replay.cuts(g, "abcdefgh")), 0);
        VERDICT.due("no text: clear()", run.ask(EditionGrid::clear), 0);
        VERDICT.due("no text: feed()", run.ask(g -> g.feed('a', 1)), 1);
        VERDICT.refused("no stories: plan()", run, EditionGrid::plan, -1);
        VERDICT.refused("no stories: held()", run, g -> g.held(0), -1);
        VERDICT.refused("no stories: lines()", run, g -> g.lines(0), -1);
        VERDICT.refused("no stories: cost()", run, g -> g.cost(0, 0), -1);
        VERDICT.refused("no stories: part()", run, g -> g.part(0, 0, 0), -1);
        VERDICT.refused("no read: fault()", run, EditionGrid::fault, -1);
        VERDICT.due("all is free: cell()", run.ask(g -> g.cell(0, 0, 0)), 0);
        VERDICT.due("all is free: ink()", run.ask(g -> g.ink(0, 0, 0, 0)), 0);
    }

    private static void firstWidths() {
        for (char letter = 'a'; letter <= 'z'; letter++) {
            EditionGrid grid = new Replay(1, 4, 16).feed("#1" + letter + " " + letter + "\na\n").read().plan().made();
            VERDICT.due("units 0 to 3", grid.ink(0, 0, 0, 3), letter);
            VERDICT.due("a space from unit 4", grid.ink(0, 0, 0, 4), 0);
            VERDICT.due("to unit 6", grid.ink(0, 0, 0, 6), 0);
            VERDICT.due("units 7 to 10", grid.ink(0, 0, 0, 7), letter);
            VERDICT.due("units 7 to 10", grid.ink(0, 0, 0, 10), letter);
            VERDICT.due("the end", grid.ink(0, 0, 0, 11), 0);
        }
    }

    // Promise 2

    private static int metric(EditionGrid grid, int letter, int width) {
        return grid.metric((char) letter, width) ? 1 : 0;
    }

    private static void metricOfNoLetter() {
        Replay run = Replay.planned(2, 4, 16, "#1az\naz\nza\n");
        int[] none = {'a' - 1, 'z' + 1, 'A', 'Z', '0', '4', ' ', '.', '-', '#', '\n', 0, 127, 255,
            'a' + 256, 'z' + 256, 'a' + 128, 'a' + 0xFF00, 0xFFFF};
        for (int letter : none) {
            VERDICT.refused("metric of code " + letter, run, g -> metric(g, letter, 5), 0);
        }
        VERDICT.taken("metric of a", run, g -> metric(g, 'a', 5), 1);
        VERDICT.taken("metric of z", run, g -> metric(g, 'z', 6), 1);
        VERDICT.taken("metric of a, as it was", run, g -> metric(g, 'a', 5), 1);
        VERDICT.due("it counts for a", run.plan().ask(g -> g.ink(0, 0, 1, 4)), 'a');
        VERDICT.due("and for z", run.ask(g -> g.ink(0, 0, 1, 10)), 'z');
        VERDICT.due("not further", run.ask(g -> g.ink(0, 0, 1, 11)), 0);
    }

    private static void metricOfNoWidth() {
        Replay run = Replay.planned(2, 4, 16, "#1az\naz\nza\n");
        for (int width : new int[] {0, 10, -1, 11, 257, 256 + 9, Integer.MIN_VALUE, Integer.MIN_VALUE + 4, Integer.MAX_VALUE}) {
            VERDICT.refused("width " + width, run, g -> metric(g, 'a', width), 0);
            VERDICT.refused("width " + width + " of no letter", run, g -> metric(g, 'A', width), 0);
        }
        for (int width = 1; width <= 9; width++) {
            int w = width;
            Replay wider = run.copy();
            VERDICT.taken("width " + w, wider, g -> metric(g, 'a', w), 1);
            wider.plan();
            VERDICT.due("the last unit of " + w, wider.ask(g -> g.ink(0, 0, 1, w - 1)), 'a');
            VERDICT.due("the unit behind " + w, wider.ask(g -> g.ink(0, 0, 1, w)), 'z');
        }
    }

    private static void metricCountsAtTheNextPlan() {
        Replay run = Replay.planned(1, 6, 16, "#1abcd\nab c\n");
        VERDICT.due("ab c has 15 units", run.ask(g -> g.lines(0)), 1);
        Replay later = run.copy().metric('c', 6);
        VERDICT.due("nothing is seen of it", later.answers().equals(run.answers()) ? 1 : 0, 1);
        VERDICT.due("17 units at the next plan()", later.plan().ask(g -> g.lines(0)), 2);
        VERDICT.due("and in the headline", later.ask(g -> g.ink(0, 0, 0, 13)), 'c');
        Replay between = new Replay(1, 6, 16).feed("#1a\nab c\n").read().metric('c', 6).plan();
        VERDICT.due("between read() and plan()", between.ask(g -> g.lines(0)), 2);
        Replay before = new Replay(1, 6, 16).metric('c', 6).feed("#1a\nab c\n").read().plan();
        VERDICT.due("before the text", before.ask(g -> g.lines(0)), 2);
        Replay back = run.copy().metric('c', 9).metric('c', 4).plan();
        VERDICT.same("there and back", back, run.copy().plan());
        Replay read = run.copy().metric('c', 6).read();
        VERDICT.due("a read() in between", read.plan().ask(g -> g.lines(0)), 2);
    }

    // Promise 3

    private static int pattern(EditionGrid grid, String signs, long values) {
        return grid.pattern(Replay.pack(signs), signs.length(), values);
    }

    private static Replay withPattern() {
        return new Replay(1, 4, 16).pattern("0a1");
    }

    private static void patternOfNoLength() {
        Replay run = withPattern();
        for (int n : new int[] {0, -1, 7, 8, 9, 256 + 1}) {
            VERDICT.refused("n = " + n, run, g -> g.pattern(Replay.pack("bbbbbbbb"), n, 0), -1);
        }
        for (int n : FAR) {
            VERDICT.refused("n = " + n, run, g -> g.pattern(Replay.pack("bbbbbbbb"), n, 0), -1);
        }
        String signs = "bbbbbb";
        for (int n = 1; n <= 6; n++) {
            int length = n;
            VERDICT.taken("n = " + n, run, g -> g.pattern(Replay.pack(signs), length, 1L << 8), n + 1);
        }
        VERDICT.due("six signs count", run.ask(g -> Replay.cuts(g, "bbbbbbb")), 4 + 8 + 16 + 32);
        Replay six = new Replay(1, 4, 16).pattern("0b0c3d0e0f0g0");
        VERDICT.due("all six must stand there", six.ask(g -> Replay.cuts(g, "bcdefh")), 0);
        VERDICT.due("all six stand there", six.ask(g -> Replay.cuts(g, "bcdefg")), 4);
    }

    private static void patternSigns() {
        Replay run = withPattern();
        int[] none = {'a' - 1, 'z' + 1, 'A', 'Z', '1', ' ', '-', '/', ',', 0, 10, 127, 128, 255, 'a' + 128};
        for (int sign : none) {
            VERDICT.refused("sign " + sign + " alone", run, g -> g.pattern(sign, 1, 0), -1);
            VERDICT.refused("sign " + sign + " at first", run, g -> g.pattern(sign * 65536L + 'b' * 256 + 'c', 3, 0), -1);
            VERDICT.refused("sign " + sign + " between", run, g -> g.pattern('b' * 65536L + sign * 256L + 'c', 3, 0), -1);
            VERDICT.refused("sign " + sign + " at last", run, g -> g.pattern('b' * 65536L + 'c' * 256 + sign, 3, 0), -1);
        }
        VERDICT.taken("z", run, g -> pattern(g, "z", 1), 2);
        VERDICT.taken("az", run, g -> pattern(g, "az", 1), 3);
        VERDICT.taken("za", run, g -> pattern(g, "za", 1), 4);
    }

    private static void patternDots() {
        Replay run = withPattern();
        for (String signs : new String[] {"b.c", "b.c.", ".b.c", "..b", "b..", "..b.", ".b..", "bb.bb", "b...b"}) {
            VERDICT.refused("a dot between: " + signs, run, g -> pattern(g, signs, 0), -1);
        }
        VERDICT.taken("a dot before", run, g -> pattern(g, ".b", 0), 2);
        VERDICT.taken("a dot behind", run, g -> pattern(g, "b.", 0), 3);
        VERDICT.taken("dots before and behind", run, g -> pattern(g, ".b.", 0), 4);
        VERDICT.taken("no dot", run, g -> pattern(g, "b", 0), 5);
        VERDICT.taken("six signs with dots", run, g -> pattern(g, ".bcde.", 0), 6);
        VERDICT.refused("seven signs with dots", run, g -> pattern(g, ".bcdef.", 0), -1);
    }

    private static void patternDotsAlone() {
        Replay run = withPattern();
        for (String signs : new String[] {".", "..", "...", "....", ".....", "......"}) {
            VERDICT.refused("dots alone: " + signs, run, g -> pattern(g, signs, 0), -1);
        }
    }

    private static void patternValues() {
        Replay run = withPattern();
        for (int n : new int[] {1, 3, 6}) {
            long signs = Replay.pack("bbbbbb".substring(0, n));
            for (int place = 0; place <= n; place++) {
                int shift = 8 * place;
                for (long value : new long[] {10, 11, 48, 49, 127, 128, 255}) {
                    VERDICT.refused("value " + value + " at " + place, run, g -> g.pattern(signs, n, value << shift), -1);
                }
                for (long value : new long[] {0, 1, 8, 9}) {
                    VERDICT.taken("value " + value + " at " + place, run.copy(), g -> g.pattern(signs, n, value << shift), 2);
                }
            }
        }
        for (int value = 0; value <= 9; value++) {
            Replay odd = new Replay(1, 4, 16).then(g -> g.pattern('c', 1, 0)).pattern("0b" + value);
            VERDICT.due("a cut where the value " + value + " is odd", odd.ask(g -> Replay.cuts(g, "abab")), value % 2 * 4);
        }
    }

    private static void patternOfTheSameSigns() {
        Replay run = new Replay(1, 4, 16).pattern("0a1").pattern("0b1");
        VERDICT.taken("the same signs, other values", run, g -> pattern(g, "a", 2), 2);
        VERDICT.due("the old values are gone", run.ask(g -> Replay.cuts(g, "cacaca")), 0);
        VERDICT.due("other patterns are there", run.ask(g -> Replay.cuts(g, "cbcbcb")), 4 + 16);
        VERDICT.taken("the same signs, the same values", run, g -> pattern(g, "a", 2), 2);
        VERDICT.refused("the same signs, a wrong value", run, g -> pattern(g, "b", 10), -1);
        VERDICT.taken("a lesser value", run, g -> pattern(g, "b", 0), 2);
        VERDICT.due("it counts too", run.ask(g -> Replay.cuts(g, "cbcbcb")), 0);
        VERDICT.taken("other signs: two letters", run, g -> pattern(g, "aa", 0), 3);
        VERDICT.taken("other signs: a dot before", run, g -> pattern(g, ".a", 0), 4);
        VERDICT.taken("other signs: a dot behind", run, g -> pattern(g, "a.", 0), 5);
        VERDICT.taken("the same signs with a dot", run, g -> pattern(g, ".a", 1), 5);
        VERDICT.taken("other signs: in turn", run, g -> pattern(g, "ab", 1), 6);
        VERDICT.taken("other signs: in turn", run, g -> pattern(g, "ba", 1), 7);
        Replay six = new Replay(1, 4, 16).pattern("0b0c1d0e0f0g0");
        VERDICT.taken("another first sign of six", six, g -> Replay.pattern(g, "0f0c2d0e0f0g0"), 2);
        VERDICT.due("the one", six.ask(g -> Replay.cuts(g, "bcdefg")), 4);
        VERDICT.due("the other", six.ask(g -> Replay.cuts(g, "fcdefg")), 0);
        VERDICT.due("neither", six.ask(g -> Replay.cuts(g, "jcdefg")), 0);
        Replay dot = new Replay(1, 4, 16).pattern("0n0a1");
        VERDICT.taken("a dot and a letter", dot, g -> Replay.pattern(g, "0.0a2"), 2);
        VERDICT.due("the letter", dot.ask(g -> Replay.cuts(g, "naaa")), 4);
    }

    private static Replay withTwentyPatterns() {
        Replay run = new Replay(1, 4, 16);
        for (char letter = 'a'; letter < 'a' + 20; letter++) {
            run.pattern("0" + letter + "0");
        }
        return run;
    }

    private static void patternTwentyFirst() {
        Replay run = new Replay(1, 4, 16);
        for (int i = 0; i < 20; i++) {
            int sign = 'a' + i;
            VERDICT.taken("pattern " + (i + 1), run, g -> g.pattern(sign, 1, 0), i + 1);
        }
        VERDICT.refused("a 21st", run, g -> pattern(g, "z", 1), -2);
        VERDICT.refused("a 21st with signs of others", run, g -> pattern(g, "ab", 1), -2);
        VERDICT.refused("a 21st with a dot", run, g -> pattern(g, ".a", 1), -2);
        VERDICT.refused("a wrong 21st: n", run, g -> g.pattern('z', 0, 1), -1);
        VERDICT.refused("a wrong 21st: n", run, g -> g.pattern('z', 7, 1), -1);
        VERDICT.refused("a wrong 21st: sign", run, g -> pattern(g, "Z", 1), -1);
        VERDICT.refused("a wrong 21st: value", run, g -> pattern(g, "z", 10), -1);
    }

    private static void patternTwentyAndTheSameSigns() {
        for (char letter : new char[] {'a', 'j', 't'}) {
            Replay run = withTwentyPatterns();
            VERDICT.due("no cut before", run.ask(g -> Replay.cuts(g, "zz" + letter + "zz")), 0);
            VERDICT.taken("one of 20 again", run, g -> g.pattern(letter, 1, 1), 20);
            VERDICT.due("it counts", run.ask(g -> Replay.cuts(g, "zz" + letter + "zz")), 8);
            VERDICT.refused("a 21st behind it", run, g -> pattern(g, "z", 1), -2);
        }
    }

    private static void patternBytesAbove() {
        Replay run = withPattern();
        Replay plain = run.copy().then(g -> g.pattern('b', 1, 0x0001));
        Replay above = run.copy().then(g -> g.pattern(0xFF00FF00FF002E00L + 'b', 1, 0xFFFFFFFFFFFF0001L));
        VERDICT.same("bytes above the n lowest", above, plain);
        VERDICT.due("and the same signs again", above.ask(g -> g.pattern('b', 1, 0)), 2);
        VERDICT.due("six signs below a sign bit", run.ask(g -> g.pattern(Long.MIN_VALUE | Replay.pack("bbbbbb"), 6, 0)), 2);
        VERDICT.due("seven values below a sign bit", run.ask(g -> g.pattern(Replay.pack("bbbbbb"), 6, Long.MIN_VALUE)), 2);
        VERDICT.refused("the seventh value", run, g -> g.pattern(Replay.pack("bbbbbb"), 6, 10L << 48), -1);
        VERDICT.due("the eighth byte", run.ask(g -> g.pattern(Replay.pack("bbbbbb"), 6, 10L << 56)), 2);
    }

    // Promise 4

    private static void cutsOfNoLength() {
        Replay run = withPattern();
        for (int n : new int[] {0, -1, 9, 10, 12, 256 + 4}) {
            VERDICT.refused("n = " + n, run, g -> g.cuts(Replay.pack("aaaaaaaa"), n), -1);
        }
        for (int n : FAR) {
            VERDICT.refused("n = " + n, run, g -> g.cuts(Replay.pack("aaaaaaaa"), n), -1);
        }
        int[] sums = {0, 0, 0, 4, 12, 28, 60, 124};
        for (int n = 1; n <= 8; n++) {
            int length = n;
            VERDICT.refused("n = " + n, run, g -> g.cuts(Replay.pack("aaaaaaaa"), length), sums[n - 1]);
        }
    }

    private static void cutsOfNoLetter() {
        Replay run = withPattern();
        for (int n : new int[] {1, 4, 8}) {
            long letters = Replay.pack("aaaaaaaa".substring(0, n));
            for (int place = 0; place < n; place++) {
                int shift = 8 * place;
                for (long sign : new long[] {'a' - 1, 'z' + 1, 'A', '.', ' ', 0, 10, 255, 'a' + 128}) {
                    long word = letters & ~(255L << shift) | sign << shift;
                    VERDICT.refused("code " + sign + " at " + place, run, g -> g.cuts(word, n), -1);
                }
            }
        }
        VERDICT.due("a to z", run.ask(g -> Replay.cuts(g, "zaaz")), 4);
        VERDICT.due("bytes above do not count", run.ask(g -> g.cuts(0xFF002E5A00000000L | Replay.pack("aaaa"), 4)), 4);
    }

    private static void cutsNearTheEnds() {
        for (int k = 0; k <= 8; k++) {
            String dots = ".abcdefgh.";
            Replay run = new Replay(1, 4, 16);
            if (k > 0) {
                run.pattern("0" + dots.charAt(k) + "1");
            } else {
                run.pattern("0.1a0");
            }
            VERDICT.due("a value behind letter " + k, run.ask(g -> Replay.cuts(g, "abcdefgh")), k >= 2 && k <= 6 ? 1 << k : 0);
        }
        Replay run = new Replay(1, 4, 16).pattern("0b1");
        VERDICT.due("two letters behind it", run.ask(g -> Replay.cuts(g, "abcd")), 4);
        VERDICT.due("one letter behind it", run.ask(g -> Replay.cuts(g, "abc")), 0);
        VERDICT.due("one letter before it", run.ask(g -> Replay.cuts(g, "bcde")), 0);
        VERDICT.due("no letter behind it", run.ask(g -> Replay.cuts(g, "ab")), 0);
    }

    private static void cutsOfTheGreatestValue() {
        Replay run = new Replay(1, 4, 16).pattern("0b2c0").pattern("0a0b1c0");
        VERDICT.due("2 counts over 1", run.ask(g -> Replay.cuts(g, "abcd")), 0);
        VERDICT.due("3 counts over 2", run.copy().pattern("0b0c0").pattern("3c0").pattern("0b2").ask(g -> Replay.cuts(g, "abcd")), 4);
        VERDICT.due("9 counts over 8", run.copy().pattern("0b9").pattern("8c0").ask(g -> Replay.cuts(g, "abcd")), 4);
        VERDICT.due("of equal ones one", run.copy().pattern("0b3").pattern("3c0").ask(g -> Replay.cuts(g, "abcd")), 4);
        VERDICT.due("two values of one pattern", new Replay(1, 4, 16).pattern("2a1").ask(g -> Replay.cuts(g, "caacc")), 8);
        VERDICT.due("none there", run.ask(g -> Replay.cuts(g, "dddd")), 0);
    }

    private static void cutsOfDottedPatterns() {
        Replay first = new Replay(1, 4, 16).pattern("0.0a0b1");
        VERDICT.due("at the begin", first.ask(g -> Replay.cuts(g, "abcd")), 4);
        VERDICT.due("not behind it", first.ask(g -> Replay.cuts(g, "cabcd")), 0);
        Replay last = new Replay(1, 4, 16).pattern("1c0d0.0");
        VERDICT.due("at the end", last.ask(g -> Replay.cuts(g, "abcd")), 4);
        VERDICT.due("not before it", last.ask(g -> Replay.cuts(g, "abcda")), 0);
        Replay both = new Replay(1, 4, 16).pattern("0.0a0b1c0d0.0");
        VERDICT.due("the whole word", both.ask(g -> Replay.cuts(g, "abcd")), 4);
        VERDICT.due("a longer word", both.ask(g -> Replay.cuts(g, "abcda")), 0);
        VERDICT.due("a longer word", both.ask(g -> Replay.cuts(g, "aabcd")), 0);
        Replay outside = new Replay(1, 4, 16).pattern("1.1a0").pattern("0d1.1");
        VERDICT.due("values at the dots cut nothing", outside.ask(g -> Replay.cuts(g, "abcd")), 0);
    }

    /** In a paragraph a word may have 12 letters, more than cuts() takes. */
    private static void cutsOfTheLongestWord() {
        String text = "#1a\nabcdefghijkl\n";
        Replay last = new Replay(1, 6, 16).feed(text).read();
        for (char letter = 'a'; letter <= 'k'; letter++) {
            last.metric(letter, 1);
        }
        last.metric('l', 9);
        VERDICT.due("20 units without a cut", last.copy().plan().ask(g -> g.cost(0, 0)), -1);
        VERDICT.due("a cut behind letter 10", last.copy().pattern("0j1").plan().ask(g -> g.cost(0, 0)), 100 + 4 * 4);
        VERDICT.due("none behind letter 11", last.copy().pattern("0k1").plan().ask(g -> g.cost(0, 0)), -1);
        Replay first = new Replay(1, 6, 16).feed(text).read();
        for (char letter = 'b'; letter <= 'l'; letter++) {
            first.metric(letter, 1);
        }
        first.metric('a', 9);
        VERDICT.due("a cut behind letter 2", first.copy().pattern("0b1").plan().ask(g -> g.cost(0, 0)), 100 + 4 * 4);
        VERDICT.due("none behind letter 1", first.copy().pattern("0a1").plan().ask(g -> g.cost(0, 0)), -1);
        VERDICT.due("a dot behind letter 12", last.copy().pattern("1k0l0.0").plan().ask(g -> g.cost(0, 0)), 100 + 4 * 4);
        VERDICT.due("a dot before letter 1", first.copy().pattern("0.0a0b1").plan().ask(g -> g.cost(0, 0)), 100 + 4 * 4);
    }

    /** The ends of each word count, not those of its paragraph. */
    private static void cutsInAParagraph() {
        for (String words : new String[] {"%s", "%s z", "z %s", "z %s z"}) {
            Replay run = new Replay(1, 8, 16).feed("#1a\n" + words.formatted("abcde") + "\n").read();
            run.metric('z', 9).metric('a', 3).metric('b', 3).metric('c', 3).metric('d', 3).metric('e', 9);
            int alone = words.startsWith("z") ? 7 * 7 : 0;
            int behind = words.endsWith("z") ? 4 * 4 : 0;
            VERDICT.due("two letters behind it in " + words, run.copy().pattern("0c1").plan().ask(g -> g.cost(0, 0)),
                    alone + 125 + behind);
            VERDICT.due("one letter behind it in " + words, run.copy().pattern("0d1").plan().ask(g -> g.cost(0, 0)), -1);
            VERDICT.due("a dot behind it in " + words, run.copy().pattern("1d0e0.0").plan().ask(g -> g.cost(0, 0)),
                    alone + 125 + behind);
            VERDICT.due("a dot before it in " + words, run.copy().pattern("0.0a0b0c1").plan().ask(g -> g.cost(0, 0)),
                    alone + 125 + behind);
            VERDICT.due("a dot within it in " + words, run.copy().pattern("0.0b0c1").plan().ask(g -> g.cost(0, 0)), -1);
            run.metric('a', 9).metric('e', 3);
            VERDICT.due("one letter before it in " + words, run.copy().pattern("0a1").plan().ask(g -> g.cost(0, 0)), -1);
        }
    }

    private static void cutsOneAfterTheOther() {
        EditionGrid grid = new Replay(1, 4, 16).pattern("0b1").made();
        VERDICT.due("a word with cuts", Replay.cuts(grid, "bbbbbbbb"), 124);
        VERDICT.due("one without", Replay.cuts(grid, "cccccccc"), 0);
        VERDICT.due("a refused one", Replay.cuts(grid, "bbbbbbb."), -1);
        VERDICT.due("one without", Replay.cuts(grid, "cccc"), 0);
        VERDICT.due("a word with cuts", Replay.cuts(grid, "bbbb"), 4);
        Replay words = new Replay(1, 8, 16).pattern("0b1").feed("#1a\nbbbbb ccccc\n").read().plan();
        VERDICT.due("a word that cannot be cut behind one that can", words.ask(g -> g.cost(0, 0)), -1);
    }

    // Promise 5

    private static int feed(EditionGrid grid, String text) {
        return grid.feed(Replay.pack(text), text.length());
    }

    private static void feedOfNoLength() {
        Replay run = Replay.planned(1, 4, 16, STORY);
        for (int n : new int[] {0, -1, 9, 10, 256 + 1}) {
            VERDICT.refused("n = " + n, run, g -> g.feed(Replay.pack("bbbbbbbb"), n), -1);
        }
        for (int n : FAR) {
            VERDICT.refused("n = " + n, run, g -> g.feed(Replay.pack("bbbbbbbb"), n), -1);
        }
        int length = STORY.length();
        for (int n = 1; n <= 8; n++) {
            int fed = n;
            VERDICT.taken("n = " + n, run.copy(), g -> g.feed(Replay.pack("bbbbbbbb"), fed), length + n);
        }
    }

    private static void feedOfNoCharacter() {
        Replay run = Replay.planned(1, 4, 16, STORY);
        int length = STORY.length();
        for (int n : new int[] {1, 3, 8}) {
            long text = Replay.pack("bbbbbbbb".substring(0, n));
            for (int place = 0; place < n; place++) {
                int shift = 8 * place;
                for (long code : new long[] {0, 1, 9, 11, 13, 31, 127, 128, 10 + 128, 255}) {
                    long fed = text & ~(255L << shift) | code << shift;
                    VERDICT.refused("code " + code + " at " + place, run, g -> g.feed(fed, n), -1);
                }
                for (long code : new long[] {10, 32, 33, 125, 126}) {
                    long fed = text & ~(255L << shift) | code << shift;
                    VERDICT.taken("code " + code + " at " + place, run.copy(), g -> g.feed(fed, n), length + n);
                }
            }
        }
    }

    /** A text of 480 characters that is right: four stories of 120. */
    private static String longest() {
        String story = "#1a\nabcdefghijkl" + " abcdefghijkl".repeat(7) + "\nabcdefghijk\n";
        return story.repeat(4);
    }

    private static void feedOfJustTheMost() {
        VERDICT.due("a text of 480", longest().length(), 480);
        Replay run = new Replay(1, 4, 16).feed(longest().substring(0, 472));
        VERDICT.taken("the last eight", run, g -> feed(g, longest().substring(472)), 480);
        VERDICT.due("all of it is read", run.ask(EditionGrid::read), 4);
        VERDICT.due("all of it is there", run.ask(EditionGrid::clear), 480);
        Replay one = new Replay(1, 4, 16).feed(longest().substring(0, 479));
        VERDICT.due("one too few", one.copy().read().ask(EditionGrid::fault), 479);
        VERDICT.taken("the last one", one, g -> g.feed(10, 1), 480);
        VERDICT.same("in other pieces", one, run);
    }

    private static void feedOfOneTooMany() {
        Replay full = new Replay(1, 4, 16).feed(longest()).read();
        for (int n = 1; n <= 8; n++) {
            int fed = n;
            VERDICT.refused("480 and " + n, full, g -> g.feed(Replay.pack("bbbbbbbb"), fed), -2);
        }
        for (int left = 1; left <= 7; left++) {
            int fed = left;
            Replay run = new Replay(1, 4, 16).feed(longest().substring(0, 480 - left));
            VERDICT.refused("one more than " + left, run, g -> g.feed(Replay.pack("bbbbbbbb"), fed + 1), -2);
            VERDICT.refused("8 where " + left + " have room", run, g -> g.feed(Replay.pack("bbbbbbbb"), 8), -2);
            VERDICT.taken("just " + left, run, g -> feed(g, longest().substring(480 - fed)), 480);
            VERDICT.due("it is right behind the refused ones", run.ask(EditionGrid::read), 4);
        }
        VERDICT.taken("room again", full.clear(), g -> feed(g, "bbbbbbbb"), 8);
    }

    private static void feedRefusedForTwoReasons() {
        Replay full = new Replay(1, 4, 16).feed(longest()).read();
        VERDICT.refused("a wrong byte without room", full, g -> g.feed(9, 1), -1);
        VERDICT.refused("n = 0 without room", full, g -> g.feed('b', 0), -1);
        VERDICT.refused("n = 9 without room", full, g -> g.feed(Replay.pack("bbbbbbbb"), 9), -1);
    }

    private static void feedBytesAbove() {
        Replay run = new Replay(1, 4, 16).feed("#1a\n");
        Replay plain = run.copy().then(g -> g.feed('b' * 256 + 10, 2));
        Replay above = run.copy().then(g -> g.feed(0xFF00097FFF000000L | 'b' * 256 + 10, 2));
        VERDICT.same("bytes above the n lowest", above, plain);
        VERDICT.refused("a sign bit in the eighth byte", run, g -> g.feed(Long.MIN_VALUE | Replay.pack("bbbbbbbb"), 8), -1);
        Replay order = run.copy().then(g -> feed(g, "bcd e\n")).read().plan();
        VERDICT.due("the highest first", order.ask(g -> g.ink(0, 0, 1, 0)), 'b');
        VERDICT.due("the lowest last", order.ask(g -> g.ink(0, 0, 2, 0)), 'e');
    }

    // Promise 6

    private static void clearOfNothing() {
        Replay run = new Replay(1, 4, 16);
        VERDICT.refused("clear() of an empty text", run, EditionGrid::clear, 0);
        Replay twice = new Replay(1, 4, 16).feed(STORY).read().plan();
        VERDICT.taken("clear() of a text", twice, EditionGrid::clear, 6);
        VERDICT.refused("clear() again", twice, EditionGrid::clear, 0);
        VERDICT.due("a refused feed() leaves it empty", twice.copy().then(g -> g.feed(9, 1)).ask(EditionGrid::clear), 0);
    }

    private static void clearOfTheMost() {
        Replay run = new Replay(1, 4, 16).feed("b");
        VERDICT.due("clear() of one character", run.ask(EditionGrid::clear), 1);
        Replay full = new Replay(1, 4, 16).feed(longest());
        VERDICT.taken("clear() of 480", full, EditionGrid::clear, 480);
        VERDICT.taken("feed() from the begin", full, g -> feed(g, STORY), 6);
        VERDICT.due("nothing of the old text is behind it", full.ask(EditionGrid::read), 1);
    }

    private static void clearLeavesTheRest() {
        Replay run = new Replay(2, 6, 16).metric('b', 3).pattern("0b1").feed("#1a\nab ab ab\n=11\n").read().plan();
        Replay cleared = run.copy().clear();
        VERDICT.due("stories and plan stay", cleared.answers().equals(run.answers()) ? 1 : 0, 1);
        VERDICT.due("they can be planned again", cleared.copy().plan().answers().equals(run.answers()) ? 1 : 0, 1);
        Replay fault = new Replay(2, 6, 16).feed("#1a\nb").read();
        VERDICT.due("the fault stays", fault.clear().ask(EditionGrid::fault), 5);
        VERDICT.due("patterns stay", cleared.ask(g -> Replay.pattern(g, "0c1")), 2);
        Replay fed = cleared.copy().feed("#1ccc\ncc\n");
        VERDICT.due("another text does not change the stories", fed.answers().equals(run.answers()) ? 1 : 0, 1);
        VERDICT.due("nor their next plan", fed.plan().answers().equals(run.answers()) ? 1 : 0, 1);
    }

    // Promise 7

    private static void readOfNothing() {
        Replay run = new Replay(1, 4, 16);
        VERDICT.due("read() of an empty text", run.ask(EditionGrid::read), -1);
        VERDICT.due("its fault", run.copy().read().ask(EditionGrid::fault), 0);
        VERDICT.due("nothing to plan", run.copy().read().ask(EditionGrid::plan), -1);
        Replay cleared = Replay.planned(1, 4, 16, STORY).clear();
        VERDICT.taken("read() behind clear()", cleared, EditionGrid::read, -1);
        dueNoStories("behind clear()", cleared);
        VERDICT.due("its fault", cleared.ask(EditionGrid::fault), 0);
    }

    private static void dueNoStories(String what, Replay run) {
        VERDICT.refused(what + ": plan()", run, EditionGrid::plan, -1);
        dueNotPlanned(what, run);
    }

    private static void dueNotPlanned(String what, Replay run) {
        EditionGrid grid = run.made();
        for (int story = 0; story < 4; story++) {
            VERDICT.due(what + ": held()", grid.held(story), -1);
            VERDICT.due(what + ": lines()", grid.lines(story), -1);
            VERDICT.due(what + ": cost()", grid.cost(story, 0), -1);
            VERDICT.due(what + ": part()", grid.part(story, 0, 0), -1);
        }
        for (int i = 0; i < 3 * 4; i++) {
            VERDICT.due(what + ": cell()", grid.cell(i / 4, 0, i % 4), 0);
            VERDICT.due(what + ": ink()", grid.ink(i / 4, 0, i % 4, 0), 0);
        }
    }

    private static void readKeepsTheText() {
        Replay right = new Replay(1, 4, 16).feed(STORY);
        VERDICT.taken("read()", right, EditionGrid::read, 1);
        VERDICT.taken("read() again", right, EditionGrid::read, 1);
        VERDICT.taken("more behind the text", right, g -> feed(g, STORY), 12);
        VERDICT.taken("read() of both", right, EditionGrid::read, 2);
        Replay wrong = new Replay(1, 4, 16).feed("#1a\nb");
        VERDICT.taken("read() with a fault", wrong, EditionGrid::read, -1);
        VERDICT.taken("read() again", wrong, EditionGrid::read, -1);
        VERDICT.taken("more behind that text", wrong, g -> g.feed(10, 1), 6);
        VERDICT.taken("read() of a right text", wrong, EditionGrid::read, 1);
        VERDICT.due("clear()", wrong.ask(EditionGrid::clear), 6);
    }

    private static void readPlansNothing() {
        Replay run = Replay.planned(1, 4, 16, STORY + STORY);
        VERDICT.due("it was planned", run.ask(g -> g.held(0)), 0);
        VERDICT.taken("read() of the same text", run, EditionGrid::read, 2);
        dueNotPlanned("behind read()", run);
        VERDICT.taken("plan()", run, EditionGrid::plan, 2);
        VERDICT.same("planned as before", run, Replay.planned(1, 4, 16, STORY + STORY));
    }

    private static void readTakesTheOldStoriesAway() {
        Replay run = Replay.planned(1, 4, 16, "#9a\nb\n=11\nb\nb\n" + STORY + STORY).clear().feed("#2c\nd\n");
        VERDICT.taken("fewer stories", run, EditionGrid::read, 1);
        VERDICT.taken("plan()", run, EditionGrid::plan, 1);
        VERDICT.same("nothing of the old ones is there", run, Replay.planned(1, 4, 16, "#2c\nd\n"));
        Replay more = Replay.planned(1, 4, 16, STORY).feed(STORY + STORY);
        VERDICT.taken("more stories", more, EditionGrid::read, 3);
        VERDICT.same("as if they were read at once", more, new Replay(1, 4, 16).feed(STORY + STORY + STORY).read());
    }

    private static void readWithAFault() {
        Replay run = Replay.planned(1, 4, 16, STORY + STORY).feed("#");
        VERDICT.taken("a fault behind two stories", run, EditionGrid::read, -1);
        dueNoStories("with a fault", run);
        VERDICT.taken("the text is mended", run, g -> feed(g, "1a\nb\n"), 18);
        dueNoStories("before it is read", run);
        VERDICT.taken("read()", run, EditionGrid::read, 3);
        VERDICT.taken("plan()", run, EditionGrid::plan, 3);
        Replay inFigure = new Replay(1, 4, 16).feed("#1a\n=1").read().clear().feed("#1a\n=11\n");
        VERDICT.due("a figure is not one too many behind a fault in it", inFigure.ask(EditionGrid::read), 1);
        Replay inParts = new Replay(1, 4, 16).feed("#1a\nb\nb\nb\nb\n!").read().clear().feed("#1a\nb\nb\nb\nb\n");
        VERDICT.due("nor a paragraph", inParts.ask(EditionGrid::read), 1);
        Replay inStories = new Replay(1, 4, 16).feed(STORY.repeat(4) + "!").read().clear().feed(STORY.repeat(4));
        VERDICT.due("nor a story", inStories.ask(EditionGrid::read), 4);
    }

    private static int readOf(String text) {
        return new Replay(1, 4, 16).feed(text).ask(EditionGrid::read);
    }

    private static void readOfTheMost() {
        String word = "abcdefghijkl";
        for (int i = 1; i <= 4; i++) {
            VERDICT.due("stories", readOf(STORY.repeat(i)), i);
            VERDICT.due("paragraphs", readOf("#1a\n" + "b\n".repeat(i)), 1);
            VERDICT.due("words in a headline", readOf("#1a" + " a".repeat(i - 1) + "\nb\n"), 1);
        }
        for (int i = 1; i <= 16; i++) {
            VERDICT.due("words in a paragraph", readOf("#1a\nb" + " b".repeat(i - 1) + "\n"), 1);
        }
        for (int i = 1; i <= 12; i++) {
            String letters = word.substring(0, i);
            VERDICT.due("letters in a word", readOf("#1" + letters + " " + letters + "\n" + letters + " " + letters + "\n"), 1);
        }
        for (int i = 0; i <= 4; i++) {
            String parts = "b\n".repeat(i) + "=99\n" + "b\n".repeat(4 - i);
            VERDICT.due("a figure behind " + i + " of 4 paragraphs", readOf("#1a\n" + parts), 1);
        }
        VERDICT.due("all of it at its most", readOf(("#1a b c d\nb\nb\n=11\nb\nb\n").repeat(4)), 4);
        VERDICT.due("a story without a paragraph", readOf("#1a\n=11\n"), 1);
        VERDICT.due("digits 0 and 9", readOf("#0a\nb\n#9a\nb\n"), 2);
    }

    // Promise 8

    private static int faultOf(String text) {
        return new Replay(1, 4, 16).feed(text).read().ask(EditionGrid::fault);
    }

    private static void faultBeforeARead() {
        Replay run = new Replay(1, 4, 16);
        VERDICT.refused("fault() of a new object", run, EditionGrid::fault, -1);
        VERDICT.refused("fault() of a text that is not read", run.copy().feed("!"), EditionGrid::fault, -1);
        VERDICT.refused("fault() behind plan() alone", run.copy().plan(), EditionGrid::fault, -1);
    }

    private static void faultOfTheLatestRead() {
        Replay run = new Replay(1, 4, 16).feed(STORY).read();
        VERDICT.due("a right text", run.ask(EditionGrid::fault), -1);
        run.feed("b").read();
        VERDICT.due("a fault behind it", run.ask(EditionGrid::fault), 7);
        run.feed(" ").read();
        VERDICT.due("another fault", run.ask(EditionGrid::fault), 8);
        run.feed("c\n").read();
        VERDICT.due("a right text again", run.ask(EditionGrid::fault), -1);
        run.clear().read();
        VERDICT.due("an empty text", run.ask(EditionGrid::fault), 0);
        run.feed(STORY).read();
        VERDICT.due("a right text again", run.ask(EditionGrid::fault), -1);
    }

    private static void faultStays() {
        Replay run = new Replay(1, 4, 16).feed("#1a\nb").read();
        VERDICT.due("the fault", run.ask(EditionGrid::fault), 5);
        VERDICT.due("behind feed()", run.copy().feed("\n").ask(EditionGrid::fault), 5);
        VERDICT.due("behind clear()", run.copy().clear().ask(EditionGrid::fault), 5);
        VERDICT.due("behind plan()", run.copy().plan().ask(EditionGrid::fault), 5);
        VERDICT.due("behind fault()", run.copy().then(EditionGrid::fault).ask(EditionGrid::fault), 5);
        Replay right = Replay.planned(1, 4, 16, STORY).feed("!").clear();
        VERDICT.due("none stays none", right.ask(EditionGrid::fault), -1);
    }

    /** What may stand at each character of this text, and behind it; all else is a fault there. */
    private static void faultAtEachCharacter() {
        String text = "#1ab c\nd ef\n=12\ng\n#0h\n=91\nij\n";
        String letters = "abcdefghijklmnopqrstuvwxyz";
        String digits = "0123456789";
        String sizes = "123456789";
        String inWord = letters + " \n";
        String atPart = letters + "=";
        String[] allowed = {
            "#", digits, letters, inWord, inWord, letters, inWord,
            atPart, inWord, letters, inWord, inWord,
            atPart + "#", sizes, sizes, "\n",
            letters + "#", inWord,
            letters + "#", digits, letters, inWord,
            atPart, sizes, sizes, "\n",
            letters + "#", inWord, inWord,
            letters + "#",
        };
        VERDICT.due("a set for each character", allowed.length, text.length() + 1);
        for (int i = 0; i < allowed.length; i++) {
            for (int code = 10; code <= 126; code = code == 10 ? 32 : code + 1) {
                String begin = text.substring(0, i) + (char) code;
                boolean isRight = code == '\n' && allowed[i].indexOf('\n') >= 0 && i != 3 && i != 4 && i != 6 && i != 21;
                int want = allowed[i].indexOf(code) < 0 ? i : isRight ? -1 : i + 1;
                VERDICT.due("code " + code + " at " + i, faultOf(begin), want);
                if (want == i) {
                    VERDICT.due("code " + code + " at " + i + ", with more behind it", faultOf(begin + "b\n#1a\nb\n"), i);
                }
            }
        }
    }

    private static void faultOfAThirteenthLetter() {
        String twelve = "abcdefghijkl";
        VERDICT.due("12 letters", faultOf("#1" + twelve + "\nb\n"), -1);
        VERDICT.due("a 13th in a headline", faultOf("#1" + twelve + "m\nb\n"), 14);
        VERDICT.due("a 13th in its last word", faultOf("#1a b c " + twelve + "m\nb\n"), 20);
        VERDICT.due("a 13th in a paragraph", faultOf("#1a\n" + twelve + "m\n"), 16);
        VERDICT.due("a 13th in its second word", faultOf("#1a\nb " + twelve + "m\n"), 18);
        VERDICT.due("a 14th is behind the fault", faultOf("#1a\n" + twelve + "mn\n"), 16);
        VERDICT.due("no letter behind the 12th", faultOf("#1a\n" + twelve + "=\n"), 16);
        VERDICT.due("the text ends behind the 12th", faultOf("#1a\n" + twelve), 16);
        VERDICT.due("a space behind the 12th", faultOf("#1a\n" + twelve + " "), 17);
    }

    private static void faultOfAFifthHeadlineWord() {
        VERDICT.due("four words", faultOf("#1a b c d\nb\n"), -1);
        VERDICT.due("a fifth", faultOf("#1a b c d e\nb\n"), 10);
        VERDICT.due("the text ends before it", faultOf("#1a b c d "), 10);
        VERDICT.due("its space alone", faultOf("#1a b c d \nb\n"), 10);
        VERDICT.due("a sixth is behind the fault", faultOf("#1a b c d e f\nb\n"), 10);
        VERDICT.due("longer words", faultOf("#1aa bb cc dd ee\nb\n"), 14);
    }

    private static void faultOfASeventeenthWord() {
        String sixteen = "#1a\nb" + " b".repeat(15);
        VERDICT.due("16 words", faultOf(sixteen + "\n"), -1);
        VERDICT.due("the text ends behind them", faultOf(sixteen), 35);
        VERDICT.due("a 17th", faultOf(sixteen + " b\n"), 36);
        VERDICT.due("the text ends before it", faultOf(sixteen + " "), 36);
        VERDICT.due("its space alone", faultOf(sixteen + " \n"), 36);
        VERDICT.due("16 in each of two paragraphs", faultOf(sixteen + "\nb" + " b".repeat(15) + "\n"), -1);
        VERDICT.due("a 17th in the second", faultOf(sixteen + "\nb" + " b".repeat(16) + "\n"), 36 + 32);
    }

    private static void faultOfAFifthParagraph() {
        VERDICT.due("four paragraphs", faultOf("#1a\nb\nb\nb\nb\n"), -1);
        VERDICT.due("a fifth", faultOf("#1a\nb\nb\nb\nb\nb\n"), 12);
        VERDICT.due("its first letter alone", faultOf("#1a\nb\nb\nb\nb\nb"), 12);
        VERDICT.due("a fifth behind a figure", faultOf("#1a\nb\nb\nb\nb\n=11\nb\n"), 16);
        VERDICT.due("a figure behind four", faultOf("#1a\nb\nb\nb\nb\n=11\n"), -1);
        VERDICT.due("four in the next story", faultOf("#1a\nb\nb\nb\nb\n#1a\nb\nb\nb\nb\n"), -1);
        VERDICT.due("a fifth in the next story", faultOf("#1a\nb\nb\nb\nb\n#1a\nb\nb\nb\nb\nb\n"), 24);
    }

    private static void faultOfASecondFigure() {
        VERDICT.due("one figure", faultOf("#1a\n=11\n"), -1);
        VERDICT.due("a second", faultOf("#1a\n=11\n=11\n"), 8);
        VERDICT.due("its = alone", faultOf("#1a\n=11\n="), 8);
        VERDICT.due("a second behind a paragraph", faultOf("#1a\n=11\nb\n=22\n"), 10);
        VERDICT.due("one in the next story", faultOf("#1a\n=11\n#1a\n=11\n"), -1);
        VERDICT.due("a second in the next story", faultOf("#1a\n=11\n#1a\n=11\n=11\n"), 16);
        VERDICT.due("a figure of 1 and 9", faultOf("#1a\n=19\n"), -1);
        VERDICT.due("a figure of 9 and 1", faultOf("#1a\n=91\n"), -1);
        VERDICT.due("no columns", faultOf("#1a\n=01\n"), 5);
        VERDICT.due("no rows", faultOf("#1a\n=10\n"), 6);
    }

    private static void faultOfAFifthStory() {
        VERDICT.due("four stories", faultOf(STORY.repeat(4)), -1);
        VERDICT.due("a fifth", faultOf(STORY.repeat(5)), 24);
        VERDICT.due("its # alone", faultOf(STORY.repeat(4) + "#"), 24);
        VERDICT.due("a paragraph there", faultOf(STORY.repeat(4) + "b\n"), -1);
        VERDICT.due("a sixth is behind the fault", faultOf(STORY.repeat(6)), 24);
        VERDICT.due("a fault before it comes first", faultOf(STORY.repeat(3) + "#1a\n#1a\nb\n"), 22);
    }

    private static void faultBehindTheText() {
        String text = "#1ab c\nd ef\n=12\ng\n#0h\n=91\nij\n";
        for (int length = 0; length <= text.length(); length++) {
            boolean isRight = length == 12 || length == 16 || length == 18 || length == 26 || length == 29;
            VERDICT.due("the first " + length, faultOf(text.substring(0, length)), isRight ? -1 : length);
            VERDICT.due("the first " + length, readOf(text.substring(0, length)), !isRight ? -1 : length <= 18 ? 1 : 2);
        }
        String full = longest().substring(0, 479);
        VERDICT.due("behind 479 characters", faultOf(full), 479);
        VERDICT.due("behind 480 characters", faultOf(full + "l"), 480);
        VERDICT.due("at the last of 480", faultOf(full + "!"), 479);
        VERDICT.due("480 right ones", faultOf(longest()), -1);
    }
}
