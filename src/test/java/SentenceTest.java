import java.io.IOException;
import java.nio.file.Files;
import java.nio.file.Path;
import java.util.ArrayList;
import java.util.List;

/**
 * The document from its first line to its last one, a sentence after the other, each with answers
 * that show it. Where the document can be read, it must be just the sentences that stand here. In
 * columns of 16 units each word "ab" is a line by itself and leaves 8 units over.
 */
public final class SentenceTest {
    private static final Path DOCUMENT = Path.of("../shared/DOC.md");
    private static final Verdict VERDICT = new Verdict();
    private static final List<String> SENTENCES = new ArrayList<>();
    private static final String LONGEST = "abcdefghijkl ".repeat(16).strip() + "\n";

    public static void main(String[] args) throws IOException {
        opening();
        lettersAndPages();
        patternsAndCuts();
        theText();
        toRead();
        linesOfAParagraph();
        costOfLines();
        breaks();
        fillingColumns();
        places();
        planningAndHolding();
        whole();
        jump();
        jumpSigns();
        units();
        rowsOfUnits();
        newObject();
        metric();
        pattern();
        cuts();
        feed();
        clear();
        read();
        fault();
        plan();
        held();
        lines();
        cost();
        part();
        cell();
        ink();
        notPromised();
        noSentenceIsLeftOut();
        VERDICT.end();
    }

    /** The sentence that the answers after it show. */
    private static void says(String sentence) {
        SENTENCES.add(sentence);
    }

    private static String about(String what) {
        String sentence = SENTENCES.get(SENTENCES.size() - 1);
        return "\"" + sentence.substring(0, Math.min(40, sentence.length())) + "..\": " + what;
    }

    private static void due(String what, int got, int want) {
        VERDICT.due(about(what), got, want);
    }

    private static void due(String what, String got, String want) {
        VERDICT.due(about(what), got, want);
    }

    private static Replay planned(int columns, int rows, String text) {
        return Replay.planned(columns, rows, 16, text);
    }

    private static Replay fresh() {
        return new Replay(2, 8, 20);
    }

    private static int reads(String text) {
        return fresh().feed(text).ask(EditionGrid::read);
    }

    private static int faultIn(String text) {
        return fresh().feed(text).read().ask(EditionGrid::fault);
    }

    /** The cuts of a word, with these patterns alone. */
    private static int cutsWith(String word, String... patterns) {
        Replay run = fresh();
        for (String written : patterns) {
            run.pattern(written);
        }
        return run.ask(g -> Replay.cuts(g, word));
    }

    private static int answerTo(String pattern) {
        return fresh().ask(g -> Replay.pattern(g, pattern));
    }

    private static int costOf(Replay run) {
        return run.ask(g -> g.cost(0, 0));
    }

    private static int linesOf(Replay run) {
        return run.ask(g -> g.lines(0));
    }

    private static int heldFor(Replay run, int story) {
        return run.ask(g -> g.held(story));
    }

    // What it is

    private static void opening() {
        says("Pages of a newspaper: stories are read from markup, words are cut by patterns, paragraphs broken into "
                + "lines at the least cost, lines are spread over columns of the least height, stories go to the first "
                + "place that is free, some of them jump to a later page, and every unit of a line can be looked at.");
        Replay run = new Replay(2, 4, 16).pattern("0x1").feed("#1a\nab ab\nab ab\nab ab\nab ab\n#9b\nwxyz uvxyz\n").read();
        due("stories", run.ask(EditionGrid::read), 2);
        due("both have a place", run.ask(EditionGrid::plan), 2);
        run.plan();
        due("wxyz, uvx- and yz: 0 and 2 units left over, and a hyphen", run.ask(g -> g.cost(1, 0)), 2 * 2 + 100);
        due("three lines stay together, in a page of four rows", run.told(1, 0), "0 0 0 2 4 0 3 3 0 0 0");
        due("the other story jumps from page 1", run.told(0, 0), "1 0 0 2 4 0 4 2 2 0 0");
        due("to page 2", run.told(0, 1), "2 0 0 2 3 4 4 2 2 0 0");
        due("the cut word", run.units(0, 0, 2), "uuuuvvvvxxxx--..");
        says("An object is used for at most 512 calls after it has been made; what later calls answer is free.");
        EditionGrid grid = new Replay(1, 4, 16).feed("#1a\nab\n").read().plan().made();
        for (int call = 4; call < 512; call++) {
            due("call " + call, grid.ink(0, 0, 1, 7), 'b');
        }
        due("call 512", grid.cell(0, 0, 1), 100);
    }

    // Terms

    private static void lettersAndPages() {
        says("LETTERS are a .. z, each with a WIDTH 1 .. 9, at first 4; a space is 3 wide, a hyphen 2.");
        due("a letter and a space", planned(1, 4, "#1a z\nm\n").units(0, 0, 0), "aaaa...zzzz.....");
        Replay widths = planned(1, 4, "#1az\nm\n").metric('a', 1).metric('z', 9).plan();
        due("1 and 9", widths.units(0, 0, 0), "azzzzzzzzz......");
        due("a hyphen", new Replay(1, 4, 16).pattern("0n1").feed("#1a\nmnopq\n").read().plan().units(0, 0, 1), "mmmmnnnn--......");
        due("no letter before a", faultIn("#1a\n`\n"), 4);
        due("no letter behind z", faultIn("#1a\n{\n"), 4);
        due("no letter A", faultIn("#1a\nA\n"), 4);
        says("A page has C COLUMNS, each W units wide, and R ROWS; there are 3 pages.");
        Replay pages = new Replay(3, 5, 20);
        for (int page = 0; page < 3; page++) {
            due("the rows of page " + page, pages.cells(page, 2), "0 0 0 0 0");
            due("no column behind the last one", pages.cells(page, 3), "");
            due("the units of its last cell", pages.units(page, 2, 4), ".".repeat(20));
        }
        due("no page 3", pages.cells(3, 0), "");
        says("CELL (page, column, row) holds one line of W units.");
        Replay lines = Replay.planned(2, 5, 20, "#1a\nabcde\nfghij\n");
        due("line 0", lines.ask(g -> g.cell(0, 0, 1)), 100);
        due("its units", lines.units(0, 0, 1), "aaaabbbbccccddddeeee");
        due("line 1", lines.ask(g -> g.cell(0, 1, 1)), 101);
        due("its units", lines.units(0, 1, 1), "ffffgggghhhhiiiijjjj");
    }

    private static void patternsAndCuts() {
        says("A PATTERN has 1 to 6 signs (letters, at least one; its first and its last sign may also be dots) and a value "
                + "0 .. 9 before each sign and behind the last one.");
        due("one sign", answerTo("0a9"), 1);
        due("six signs", answerTo("9a0b0c0d0e0f0"), 1);
        due("seven signs", answerTo("0a0b0c0d0e0f0g0"), -1);
        due("dots at both ends", answerTo("0.0a0.0"), 1);
        due("dots alone", answerTo("0.0.0"), -1);
        due("a dot within", answerTo("0a0.0a0"), -1);
        due("another sign", answerTo("0a0-0"), -1);
        due("a value above 9", answerTo("0a:"), -1);
        says("A WORD, of 1 to 12 letters, is written with a dot before and behind it; wherever the signs of a pattern stand "
                + "in that, its values stand at these places; of several values at a place the greatest one counts, 0 where "
                + "there is none.");
        due("1 letter and 12", reads("#1a\na abcdefghijkl\n"), 1);
        due("no word of 13", reads("#1a\nabcdefghijklm\n"), -1);
        due("a dot before it", cutsWith("ababab", "0.0a0b3"), 4);
        due("a dot behind it", cutsWith("ababab", "3a0b0.0"), 16);
        due("wherever they stand", cutsWith("ababab", "0a0b3"), 4 + 16);
        due("a value before, one between, one behind", cutsWith("mmabmmm", "1a3b5"), 4 + 8 + 16);
        due("a greater one", cutsWith("aabaab", "0a1", "0a2b0"), 16);
        due("a lesser one", cutsWith("aabaab", "0a3", "0a2b0"), 4 + 16);
        due("none", cutsWith("aabaab", "0x1"), 0);
        due("none of the word before it", fresh().pattern("0a1").then(g -> Replay.cuts(g, "aaaaaa")).ask(g -> Replay.cuts(g, "xxxxxx")), 0);
        says("The word may be CUT behind its k-th letter (2 <= k, and at least 2 letters behind it) when the value there is "
                + "odd.");
        due("an odd value", cutsWith("aaaaaa", "0a9"), 4 + 8 + 16);
        due("an even one", cutsWith("aaaaaa", "0a8"), 0);
        due("3 letters", cutsWith("aaa", "0a1"), 0);
        due("4 letters", cutsWith("aaaa", "0a1"), 4);
    }

    private static void theText() {
        says("THE TEXT (at most 480 characters) is one STORY or more.");
        Replay most = fresh().feed("#1a\n" + LONGEST + LONGEST + LONGEST.substring(0, 59) + "\n");
        due("480 characters", most.ask(EditionGrid::clear), 480);
        due("they are read", most.ask(EditionGrid::read), 1);
        due("not one more", most.ask(g -> g.feed('a', 1)), -2);
        due("no story", reads(""), -1);
        due("one story", reads("#1a\nb\n"), 1);
        due("two stories", reads("#1a\nb\n#1a\nb\n"), 2);
        says("A story: #, a digit (how URGENT it is), its HEADLINE, a line end (code 10), and then one part or more, each with "
                + "a line end behind it; a part is a PARAGRAPH, or = and two digits 1 .. 9, a FIGURE (columns, rows).");
        due("no #", faultIn("1a\nb\n"), 0);
        due("no digit", faultIn("#ab\nc\n"), 1);
        due("the sign before 0", faultIn("#/a\nb\n"), 1);
        due("the sign behind 9", faultIn("#:a\nb\n"), 1);
        due("the digits", reads("#0a\nb\n#9a\nb\n"), 2);
        due("no headline", faultIn("#1\nb\n"), 2);
        due("no line end behind it", faultIn("#1a=11\n"), 3);
        due("no part", faultIn("#1a\n#1a\nb\n"), 4);
        due("no line end behind a part", faultIn("#1a\nb#1a\nb\n"), 5);
        due("parts in any order", reads("#1a\nb\n=11\nb\n#1a\n=99\n"), 2);
        due("a figure of 0 columns", faultIn("#1a\n=01\n"), 5);
        due("a figure of 0 rows", faultIn("#1a\n=10\n"), 6);
        due("a figure with three digits", faultIn("#1a\n=111\n"), 7);
        due("columns, then rows", planned(4, 6, "#1a\n=21\nab\n").cells(0, 1), "180 181 0 0 0 0");
        says("A headline and a paragraph are words with one space between each two.");
        due("a space before the headline", faultIn("#1 a\nb\n"), 2);
        due("two spaces in it", faultIn("#1a  b\nc\n"), 4);
        due("a space behind it", faultIn("#1a \nb\n"), 4);
        due("a space before a paragraph", faultIn("#1a\n b\n"), 4);
        due("two spaces in it", faultIn("#1a\nb  c\n"), 6);
        due("a space behind it", faultIn("#1a\nb \n"), 6);
        says("At most 4 stories, 4 paragraphs and 1 figure in a story, 16 words in a paragraph, 4 in a headline.");
        due("4 stories", reads("#1a\nb\n".repeat(4)), 4);
        due("5 stories", reads("#1a\nb\n".repeat(5)), -1);
        due("4 paragraphs and a figure", reads("#1a\nb\nb\nb\nb\n=11\n"), 1);
        due("5 paragraphs", reads("#1a\nb\nb\nb\nb\nb\n"), -1);
        due("2 figures", reads("#1a\n=11\nb\n=11\n"), -1);
        due("16 words", reads("#1a\nb" + " b".repeat(15) + "\n"), 1);
        due("17 words", reads("#1a\nb" + " b".repeat(16) + "\n"), -1);
        due("4 words", reads("#1a b c d\ne\n"), 1);
        due("5 words", reads("#1a b c d e\nf\n"), -1);
        says("A story without a paragraph is one with no lines.");
        Replay figure = planned(2, 6, "#1a\n=11\n");
        due("its lines", linesOf(figure), 0);
        due("it is held", heldFor(figure, 0), 2);
    }

    private static void toRead() {
        says("TO READ goes from character to character; the first one that cannot stand there, or at which there is one "
                + "thing too many (a story at its #, a paragraph or word at its first letter, a figure at its =, a letter of "
                + "a word), is the FAULT; where the text ends too early, the fault is behind its last character.");
        String right = "#1a b\nc d\n=12\ne\n";
        for (int i = 0; i < right.length(); i++) {
            due("a wrong character " + i, faultIn(right.substring(0, i) + "!" + right.substring(i + 1)), i);
            boolean isWhole = i == 10 || i == 14;
            due(i + " characters alone", faultIn(right.substring(0, i)), isWhole ? -1 : i);
        }
        due("the first of two", faultIn("#1a!b\n!\n"), 3);
        due("a story too many", faultIn("#1a\nb\n".repeat(5)), 24);
        due("a paragraph too many", faultIn("#1a\nb\nb\nb\nb\nb\n"), 12);
        due("a word too many in a headline", faultIn("#1a b c d e\nf\n"), 10);
        due("a word too many in a paragraph", faultIn("#1a\n" + "b ".repeat(16) + "b\n"), 36);
        due("a figure too many", faultIn("#1a\n=11\n=11\n"), 8);
        due("a letter too many in a headline", faultIn("#1abcdefghijklm\nb\n"), 14);
        due("a letter too many in a paragraph", faultIn("#1a\nb abcdefghijklm\n"), 18);
    }

    private static void linesOfAParagraph() {
        says("A paragraph is broken into LINES.");
        Replay three = planned(1, 6, "#1a\nab cd ef\n");
        due("its lines", linesOf(three), 3);
        due("they stand in cells", three.cells(0, 0), "180 100 101 102 0 0");
        says("Lines may end behind a word, or where a word is cut (then with a hyphen); the next one begins with the next word, "
                + "or the rest of it.");
        Replay both = new Replay(1, 6, 20).pattern("0c1").feed("#1a\nij abcdef g\n").read().plan();
        due("behind a word", both.units(0, 0, 1), "iiiijjjj............");
        due("where a word is cut", both.units(0, 0, 2), "aaaabbbbcccc--......");
        due("the rest of it, and the next word", both.units(0, 0, 3), "ddddeeeeffff...gggg.");
        due("no more lines", linesOf(both), 3);
        Replay begin = new Replay(1, 6, 20).pattern("0.0a0b0c1").feed("#1a\nxabcx abcdefgh\n").read().plan();
        due("at the begin of the second word", begin.units(0, 0, 2), "aaaabbbbcccc--......");
        says("A line is as wide as its letters, the spaces between its words and its hyphen; it is at most W wide.");
        due("19 units", linesOf(Replay.planned(1, 6, 19, "#1a\nab cd\n")), 1);
        due("19 of 18 units", linesOf(Replay.planned(1, 6, 18, "#1a\nab cd\n")), 2);
        Replay hyphen = new Replay(1, 6, 16).pattern("0c1").metric('c', 6).feed("#1a\nabcdef\n").read().plan();
        due("14 units and a hyphen", hyphen.units(0, 0, 1), "aaaabbbbcccccc--");
        due("15 units and a hyphen", costOf(hyphen.copy().metric('c', 7).plan()), -1);
    }

    private static void costOfLines() {
        says("The COST of a line with r units left over is r * r, and 100 more with a hyphen; the last line of a paragraph "
                + "costs nothing.");
        due("8 left over twice", costOf(planned(1, 6, "#1a\nab cd ef\n")), 64 + 64);
        due("none left over", costOf(planned(1, 6, "#1a\nabcd ef\n")), 0);
        Replay hyphen = new Replay(1, 6, 20).pattern("0c1").feed("#1a\nabcdef g\n").read().plan();
        due("6 left over, and a hyphen", costOf(hyphen), 36 + 100);
        due("the last line alone", costOf(planned(1, 6, "#1a\na\n")), 0);
        says("Of all ways to break it the one with the least sum counts; of several ones that whose first line has the most "
                + "letters, then whose second line has, and so on.");
        Replay least = Replay.planned(1, 6, 18, "#1a\na b c d eeee\n");
        due("7 and 7 left over, not 0 and 14", costOf(least), 49 + 49);
        due("its first line", least.units(0, 0, 1), "aaaa..........bbbb");
        due("its second line", least.units(0, 0, 2), "cccc..........dddd");
        Replay equal = Replay.planned(1, 6, 17, "#1a\na b c eeee\n");
        due("6 and 13 left over, or 13 and 6", costOf(equal), 36 + 169);
        due("the first line has two letters", equal.units(0, 0, 1), "aaaa.........bbbb");
        Replay second = Replay.planned(1, 6, 17, "#1a\nffff a b c eeee\n");
        due("the same behind a line", costOf(second), 1 + 36 + 169);
        due("the second line has two letters", second.units(0, 0, 2), "aaaa.........bbbb");
        says("There may be none.");
        due("a word of 20 units", costOf(planned(1, 6, "#1a\nabcde\n")), -1);
    }

    private static void breaks() {
        says("A BREAK between two lines of a story is BAD when the one before it is the first line of its paragraph, or the one "
                + "behind it is the last line of its paragraph (of paragraphs with 2 lines or more).");
        due("between 2 lines", planned(2, 8, "#1a\nab ab\n").told(0, 0), "0 0 0 2 3 0 2 2 0 0 0");
        due("between 3 lines", planned(2, 8, "#1a\nab ab ab\n").told(0, 0), "0 0 0 2 4 0 3 3 0 0 0");
        due("in the middle of 4", planned(2, 8, "#1a\nab ab ab ab\n").told(0, 0), "0 0 0 2 3 0 4 2 2 0 0");
        due("between paragraphs of 1", planned(2, 8, "#1a\nab\nab\n").told(0, 0), "0 0 0 2 2 0 2 1 1 0 0");
        due("between 2 and 1", planned(2, 8, "#1a\nab ab\nab\n").told(0, 0), "0 0 0 2 3 0 3 2 1 0 0");
        due("between 1 and 2", planned(2, 8, "#1a\nab\nab ab\n").told(0, 0), "0 0 0 2 3 0 3 1 2 0 0");
    }

    private static void fillingColumns() {
        says("TO FILL columns that have room for so many lines each with lines in their order: each column from the first one on "
                + "takes as many as it can, if the rest can go into the other columns; no break between two columns is bad "
                + "(columns may take none).");
        due("as many as it can", planned(3, 8, "#1a\nab\nab\nab\nab\n").told(0, 0), "0 0 0 3 3 0 4 2 2 0 0");
        Replay order = planned(3, 8, "#1a\nab ab ab\nab ab ab ab\n");
        due("3, then 2 of the 3 that have room", order.told(0, 0), "0 0 0 3 4 0 7 3 2 2 0");
        due("in their order", order.cells(0, 1), "180 103 104 90 0 0 0 0");
        due("one less, for the rest", planned(3, 8, "#1a\nab ab ab ab ab\n").told(0, 0), "0 0 0 3 3 0 5 2 1 2 0");
        due("the last ones take none", planned(3, 8, "#1a\nab ab ab\n").told(0, 0), "0 0 0 3 4 0 3 3 0 0 0");
        due("the first one takes none", planned(2, 8, "#1a\n=12\nab\nab\n").told(0, 0), "0 0 0 2 3 0 2 0 2 0 0");
        says("There may be no way.");
        due("3 lines below a figure, with room for 2 at most", heldFor(planned(2, 4, "#1a\n=21\nab ab ab\n"), 0), 3);
    }

    private static void places() {
        says("A PLACE is a page, a column x, a row y, k columns and a height (rows); all its cells are free, and on the page.");
        Replay run = planned(2, 5, "#1a\nab\n#1b\nab\n#1c\nab\n");
        due("the first one", run.told(0, 0), "0 0 0 2 2 0 1 1 0 0 0");
        due("below it", run.told(1, 0), "0 0 2 2 2 0 1 1 0 0 0");
        due("one row is left, it goes to the next page", run.told(2, 0), "1 0 0 2 2 0 1 1 0 0 0");
        says("Places of a page with k columns come by y, then by x; those with more columns come first; earlier pages come "
                + "first.");
        Replay order = planned(3, 6, "#9a\nab ab ab\n#8b\nab ab\n#7c\nab\n");
        due("all columns from x = 0 on, at y = 0", order.told(0, 0), "0 0 0 3 4 0 3 3 0 0 0");
        due("no place on page 0", order.told(1, 0), "1 0 0 3 3 0 2 2 0 0 0");
        due("page 0 before page 1", order.told(2, 0), "0 0 4 3 2 0 1 1 0 0 0");
    }

    private static void planningAndHolding() {
        says("STORIES ARE PLANNED by their urgency, the greatest digit first, of equal ones by their numbers.");
        Replay run = planned(1, 8, "#0a\nab\n#5b\nab\n#9c\nab\n#5d\nab\n");
        due("9, 5, 5 and 0", run.cells(0, 0), "380 300 280 200 480 400 180 100");
        says("It is HELD, for reason 1, when a paragraph cannot be broken; for reason 2, when it has more than 40 lines, or "
                + "none.");
        String forty = "#1a\nab" + " ab".repeat(15) + "\nab" + " ab".repeat(15) + "\nab" + " ab".repeat(7) + "\n";
        due("one paragraph of two", heldFor(planned(4, 16, "#1a\nab\nabcde\n"), 0), 1);
        due("40 lines", heldFor(planned(4, 16, forty), 0), 0);
        due("41 lines", heldFor(planned(4, 16, forty + "ab\n"), 0), 2);
        due("more than 40, and one that cannot be broken", heldFor(planned(4, 16, forty + "ab abcde\n"), 0), 1);
        due("no lines", heldFor(planned(4, 16, "#1a\n=11\n"), 0), 2);
    }

    private static void whole() {
        says("WHOLE: for k columns (if the figure has no more) the height is 1 and h, h being the least, from 1 to R - 1, with "
                + "which the lines fill k columns with room for h lines each, less the figure's rows in the first columns, as "
                + "many as the figure has (no room may be below 0); if there is one.");
        due("a figure of all columns", heldFor(planned(2, 6, "#1a\n=21\nab\n"), 0), 0);
        due("a figure of one column more", heldFor(planned(2, 6, "#1a\n=31\nab\n"), 0), 3);
        due("h = 1", planned(2, 6, "#1a\nab\nab\n").told(0, 0), "0 0 0 2 2 0 2 1 1 0 0");
        due("h = R - 1", planned(1, 6, "#1a\nab ab ab ab ab\n").told(0, 0), "0 0 0 1 6 0 5 5 0 0 0");
        due("h = R would be due", planned(1, 6, "#1a\nab ab ab ab ab ab\n").told(0, 0), "0 0 0 1 6 0 4 4 0 0 0");
        due("room for 1 and 3", planned(2, 6, "#1a\n=12\nab\nab\nab\n").told(0, 0), "0 0 0 2 4 0 3 1 2 0 0");
        due("room for 0 and 3", planned(2, 6, "#1a\n=13\nab\n").told(0, 0), "0 0 0 2 4 0 1 0 1 0 0");
        due("room below 0", heldFor(planned(2, 4, "#1a\n=14\nab\n"), 0), 3);
        says("The first place with its height that is free is taken.");
        Replay run = planned(1, 6, "#9a\nab\n#8b\nab ab ab ab\n#7c\nab ab ab\n");
        due("4 rows are left, 5 are due", run.told(1, 0), "1 0 0 1 5 0 4 4 0 0 0");
        due("4 rows are due", run.told(2, 0), "0 0 2 1 4 0 3 3 0 0 0");
        says("Its first row has the headline; the figure stands in the rows below, in its columns; the lines below it or below "
                + "the headline.");
        Replay figure = planned(3, 6, "#1abcdefgh\n=22\nab\nab\nab\nab\n");
        due("column 0", figure.cells(0, 0), "180 181 181 100 0 0");
        due("column 1", figure.cells(0, 1), "180 181 181 101 0 0");
        due("column 2", figure.cells(0, 2), "180 102 103 90 0 0");
    }

    private static void jump() {
        says("A JUMP, when there is no such place: for each place of the pages 0 and 1 with k columns (if the figure has no "
                + "more), whose height is the greatest with which it is free, at least 2: with h being that less 1, and room "
                + "as said, but one less in the last column: let m be the greatest number, of 2 or more, 2 or more being left, "
                + "for which the first m lines fill these columns, and the break behind them is not bad; and let the rest be "
                + "placed WHOLE, without a figure, on a later page.");
        Replay run = planned(1, 6, "#1a\nab ab ab ab\nab\nab\nab\n");
        due("6 rows, room for 4, m = 4", run.told(0, 0), "0 0 0 1 6 0 4 4 0 0 0");
        due("the rest", run.told(0, 1), "1 0 0 1 4 4 3 3 0 0 0");
        Replay bad = planned(1, 6, "#1a\nab ab ab\nab ab ab\n");
        due("room for 4, but a bad break behind them", bad.told(0, 0), "0 0 0 1 6 0 3 3 0 0 0");
        Replay two = planned(2, 4, "#1a\nab\nab ab ab ab\nab ab\n");
        due("room for 3 and 2", two.told(0, 0), "0 0 0 2 4 0 5 3 2 0 0");
        due("2 are left", two.told(0, 1), "1 0 0 2 3 5 2 2 0 0 0");
        Replay figure = planned(1, 6, "#1a\n=12\nab\nab\nab\nab\n");
        due("room for 5 less 2 less 1", figure.told(0, 0), "0 0 0 1 6 0 2 2 0 0 0");
        due("without a figure", figure.told(0, 1), "1 0 0 1 3 2 2 2 0 0 0");
        due("m would be 1", heldFor(planned(1, 6, "#1a\n=13\nab\nab\nab\nab\n"), 0), 3);
        due("pages 0 and 1 are full", heldFor(planned(1, 4, "#9a\nab ab ab\n#9b\nab ab ab\n#1c\nab ab ab ab\n"), 2), 3);
        Replay least = planned(3, 4, "#9a\nab\n#1b\nab\nab\nab" + " ab".repeat(7) + "\n");
        due("a height of 2, room for 1, 1 and 0", least.told(1, 0), "0 0 2 3 2 0 2 1 1 0 0");
        Replay small = planned(3, 4, "#9a\nab ab\n#1b\nab\nab\nab" + " ab".repeat(7) + "\n");
        due("a height of 1 is too little; 3 in the first column would be bad", small.told(1, 0), "1 0 0 3 4 0 7 2 3 2 0");
        says("The first place for which there is such an m and, with it, such a place takes these lines; the story's second "
                + "part takes the other one.");
        Replay later = planned(1, 4, "#9a\nab ab ab\n#1b\nab ab ab ab\n");
        due("no place on page 0", later.told(1, 0), "1 0 0 1 4 0 2 2 0 0 0");
        due("its second part", later.told(1, 1), "2 0 0 1 3 2 2 2 0 0 0");
        Replay over = planned(1, 6, "#9a\nab\n#8b\nab ab ab ab\n#1c\nab\nab\nab ab ab ab\n");
        due("from page 0", over.told(2, 0), "0 0 2 1 4 0 2 2 0 0 0");
        due("page 1 has one row left", over.told(2, 1), "2 0 0 1 5 2 4 4 0 0 0");
    }

    private static void jumpSigns() {
        says("In its last row of the last column the first part has the sign > and the number of the page (1 to 3) of the second "
                + "one; this has, in place of a headline, in the first column of its first row < and the number of the page of "
                + "the first one.");
        Replay run = planned(2, 4, "#1a\nab\nab ab ab ab\nab ab\n");
        due("the last column", run.cells(0, 1), "180 103 104 182");
        due("its last row", run.units(0, 1, 3), ">2..............");
        due("the first column", run.cells(1, 0), "183 105 106 0");
        due("its first row", run.units(1, 0, 0), "<1..............");
        due("no headline beside it", run.cells(1, 1), "90 90 90 0");
        says("When there is none, it is held, for reason 3.");
        Replay none = planned(1, 4, "#1a\nab ab ab ab ab ab\n");
        due("2 lines and 4, with room for 3", heldFor(none, 0), 3);
        due("all is free", none.cells(0, 0), "0 0 0 0");
    }

    private static void units() {
        says("WHAT IS SEEN in a unit x of a cell: the letter (its code) in whose width it is, or 45 in a hyphen, and 0 in spaces, "
                + "behind the end, and in cells without anything.");
        Replay run = new Replay(2, 4, 16).pattern("0c1").feed("#1x\nabcdef g\n").read().plan();
        due("the code of a letter", run.ask(g -> g.ink(0, 0, 1, 4)), 98);
        due("a hyphen", run.ask(g -> g.ink(0, 0, 1, 12)), 45);
        due("its second unit", run.ask(g -> g.ink(0, 0, 1, 13)), 45);
        due("behind the end", run.ask(g -> g.ink(0, 0, 1, 14)), 0);
        due("a space", Replay.planned(1, 4, 20, "#1x\na b\n").units(0, 0, 1), "aaaa...bbbb.........");
        due("a cell with nothing", run.units(0, 1, 1), "................");
        due("a free cell", run.units(2, 0, 0), "................");
        says("A line that is not the last one of its paragraph is made W wide: its spaces get what is left over, each as much, and "
                + "the first ones one unit more, as many as are needed.");
        Replay spread = Replay.planned(1, 6, 25, "#1a\na b c ddd\ne f\n");
        due("7 units for two spaces", spread.units(0, 0, 1), "aaaa.......bbbb......cccc");
        due("the last line", spread.units(0, 0, 2), "dddddddddddd.............");
        due("the last line of the next one", spread.units(0, 0, 3), "eeee...ffff..............");
        due("6 units for two", Replay.planned(1, 6, 24, "#1a\na b c ddd\n").units(0, 0, 1), "aaaa......bbbb......cccc");
        Replay hyphen = new Replay(1, 6, 24).pattern("0c1").feed("#1a\nm abcdefgh\n").read().plan();
        due("a space before a hyphen", hyphen.units(0, 0, 1), "mmmm......aaaabbbbcccc--");
        due("no space", planned(1, 6, "#1a\nab cd\n").units(0, 0, 1), "aaaabbbb........");
    }

    private static void rowsOfUnits() {
        says("A headline begins at the first unit of its row and goes over all its columns, as far as there are any.");
        Replay run = planned(2, 4, "#1abc de fghi\nab\n");
        due("its first column", run.units(0, 0, 0), "aaaabbbbcccc...d");
        due("its second column", run.units(0, 1, 0), "dddeeee...ffffgg");
        due("one column alone", planned(1, 4, "#1abc de fghi\nab\n").units(0, 0, 0), "aaaabbbbcccc...d");
        Replay three = planned(3, 4, "#1abcde\nab\n");
        due("its end", three.units(0, 1, 0), "eeee............");
        due("behind its end", three.units(0, 2, 0), "................");
        says("In a figure it is 35.");
        due("all its units", planned(2, 4, "#1a\n=11\nab\n").units(0, 0, 1), "################");
        due("the code", planned(2, 4, "#1a\n=11\nab\n").ask(g -> g.ink(0, 0, 1, 15)), 35);
        says("In the row of a jump unit 0 is the sign (60 or 62), unit 1 the digit (49 to 51).");
        Replay jump = planned(1, 4, "#9a\nab ab ab\n#1b\nab ab ab ab\n");
        due("the sign >", jump.ask(g -> g.ink(1, 0, 3, 0)), 62);
        due("page 3", jump.ask(g -> g.ink(1, 0, 3, 1)), 51);
        due("the sign <", jump.ask(g -> g.ink(2, 0, 0, 0)), 60);
        due("page 2", jump.ask(g -> g.ink(2, 0, 0, 1)), 50);
        due("page 1", planned(1, 4, "#1b\nab ab ab ab\n").ask(g -> g.ink(1, 0, 0, 1)), 49);
        due("behind them", jump.units(1, 0, 3).substring(2), "..............");
    }

    // Promises

    private static void newObject() {
        says("`EditionGrid(int columns, int rows, int width)`: C is columns, but at least 1 and at most 4; R is rows, but at least "
                + "4 and at most 16; W is width, but at least 16 and at most 60.");
        int[][] sizes = {{1, 4, 16}, {2, 9, 33}, {4, 16, 60}, {0, 3, 15}, {5, 17, 61}, {-7, -7, -7}, {99, 99, 99}};
        for (int[] s : sizes) {
            Replay run = new Replay(s[0], s[1], s[2]);
            int columns = Math.max(1, Math.min(4, s[0]));
            due("rows", run.cells(2, columns - 1), "0" + " 0".repeat(Math.max(4, Math.min(16, s[1])) - 1));
            due("no column more", run.cells(2, columns), "");
            due("units", run.units(2, columns - 1, 3), ".".repeat(Math.max(16, Math.min(60, s[2]))));
        }
        says("No patterns, no text, no stories.");
        due("the first pattern", answerTo("0a1"), 1);
        due("no cuts", cutsWith("aaaaaaaa"), 0);
        due("no text", fresh().ask(EditionGrid::clear), 0);
        due("no stories", fresh().ask(EditionGrid::plan), -1);
        due("no story", heldFor(fresh(), 0), -1);
    }

    private static void metric() {
        says("`boolean metric(char letter, int width)`: A letter gets another width (it counts when plan() is called next, for "
                + "lines and for what is seen): true; false when it is no letter, or width not 1 .. 9.");
        Replay run = planned(1, 6, "#1a\nabc d\n");
        due("true", run.ask(g -> g.metric('a', 1) ? 1 : 0), 1);
        run.metric('a', 1);
        due("not before plan()", run.units(0, 0, 1), "aaaabbbbcccc....");
        due("nor for lines", linesOf(run), 2);
        run.plan();
        due("what is seen", run.units(0, 0, 1), "abbbbcccc...dddd");
        due("lines", linesOf(run), 1);
        due("no letter", fresh().ask(g -> g.metric('A', 4) ? 1 : 0), 0);
        due("no letter, with a's low byte", fresh().ask(g -> g.metric((char) ('a' + 256), 4) ? 1 : 0), 0);
        due("width 0", fresh().ask(g -> g.metric('a', 0) ? 1 : 0), 0);
        due("width 10", fresh().ask(g -> g.metric('a', 10) ? 1 : 0), 0);
        due("width 9", fresh().ask(g -> g.metric('z', 9) ? 1 : 0), 1);
    }

    private static Replay twentyPatterns() {
        Replay run = fresh();
        for (char letter = 'a'; letter < 'a' + 20; letter++) {
            run.pattern("0" + letter + "1");
        }
        return run;
    }

    private static void pattern() {
        says("`int pattern(long signs, int n, long values)`: A pattern of the n lowest bytes of signs, the highest first, with the "
                + "n + 1 lowest bytes of values, the highest first; in place of one with the same signs.");
        Replay run = fresh().then(g -> g.pattern(0x6162L, 2, 0x000304L));
        due("ab with 0 3 4", run.ask(g -> Replay.cuts(g, "mabm")), 4);
        due("not ba", run.ask(g -> Replay.cuts(g, "mbam")), 0);
        due("higher bytes", fresh().then(g -> g.pattern(0x7A7A6162L, 2, 0x0909000304L)).ask(g -> Replay.cuts(g, "mabm")), 4);
        run.pattern("0a2b3");
        due("in place of it", run.ask(g -> Replay.cuts(g, "mabmm")), 8);
        says("How many patterns there are then.");
        due("the same signs", run.ask(g -> Replay.pattern(g, "0a0b0")), 1);
        due("other signs", run.ask(g -> Replay.pattern(g, "0b0a0")), 2);
        due("the same signs, and one more", run.ask(g -> Replay.pattern(g, "0a0b0c0")), 2);
        says("NONE when n is not 1 .. 6, or a sign or value is not as said (a dot alone, or one between letters, too); ROOM when "
                + "there would be a 21st.");
        due("n = 0", fresh().ask(g -> g.pattern('a', 0, 0)), -1);
        due("n = 7", fresh().ask(g -> g.pattern(0x61616161616161L, 7, 0)), -1);
        due("a sign A", answerTo("0A0"), -1);
        due("a value 10 behind", fresh().ask(g -> g.pattern('a', 1, 0x000A)), -1);
        due("a value 10 before", fresh().ask(g -> g.pattern('a', 1, 0x0A00)), -1);
        due("a dot alone", answerTo("0.0"), -1);
        due("a dot between letters", answerTo("0a0.0b0"), -1);
        due("a 21st", twentyPatterns().ask(g -> Replay.pattern(g, "0z1")), -2);
        due("one of the 20 anew", twentyPatterns().ask(g -> Replay.pattern(g, "0t0")), 20);
        due("a wrong 21st", twentyPatterns().ask(g -> Replay.pattern(g, "0Z1")), -1);
    }

    private static void cuts() {
        says("`int cuts(long letters, int n)`: Where a word, of the n lowest bytes, may be cut: the sum of 2^k.");
        due("behind 2 and 4", cutsWith("nanananm", "0n0a1"), 4 + 16 + 64);
        Replay run = fresh().pattern("0a1");
        due("the lowest bytes", run.ask(g -> g.cuts(0x6D6D6D616D6DL, 4)), 4);
        due("8 letters", run.ask(g -> Replay.cuts(g, "mmmmmamm")), 64);
        says("NONE when n is not 1 .. 8, or a byte is no letter.");
        due("n = 0", run.ask(g -> g.cuts('a', 0)), -1);
        due("n = 9", run.ask(g -> g.cuts(0x6161616161616161L, 9)), -1);
        due("n = 1", run.ask(g -> g.cuts('a', 1)), 0);
        due("a dot", run.ask(g -> Replay.cuts(g, "aa.a")), -1);
        due("a byte 0", run.ask(g -> g.cuts('a', 2)), -1);
    }

    private static void feed() {
        says("`int feed(long characters, int n)`: Appends the n lowest bytes, the highest first, to the text.");
        Replay run = new Replay(1, 4, 16).then(g -> g.feed(0x233161L, 3)).then(g -> g.feed(0x7A7A0A62630AL, 4)).read().plan();
        due("#1a, then a line end, bc and a line end", run.units(0, 0, 0), "aaaa............");
        due("in this order", run.units(0, 0, 1), "bbbbcccc........");
        says("How many characters it has then; NONE when n is not 1 .. 8, or a byte is neither 10 nor 32 .. 126; ROOM when there "
                + "would be more than 480.");
        due("7 and 8 more", run.ask(g -> g.feed(0x6161616161616161L, 8)), 15);
        due("n = 0", run.ask(g -> g.feed('a', 0)), -1);
        due("n = 9", run.ask(g -> g.feed(0x6161616161616161L, 9)), -1);
        int[] wrong = {0, 9, 11, 31, 127, 128, 255};
        for (int code : wrong) {
            due("code " + code, run.ask(g -> g.feed(code, 1)), -1);
        }
        int[] right = {10, 32, 126};
        for (int code : right) {
            due("code " + code, run.ask(g -> g.feed(code, 1)), 8);
        }
        Replay full = fresh().feed("a".repeat(475));
        due("480", full.ask(g -> g.feed(0x6161616161L, 5)), 480);
        due("481", full.ask(g -> g.feed(0x616161616161L, 6)), -2);
        due("nothing was appended", full.then(g -> g.feed(0x616161616161L, 6)).ask(EditionGrid::clear), 475);
    }

    private static void clear() {
        says("`int clear()`: The text is empty then.");
        Replay run = planned(1, 4, "#1a\nb\n").clear();
        due("the next character is its first", run.ask(g -> g.feed('a', 1)), 1);
        due("no story is read", run.ask(EditionGrid::read), -1);
        due("those that were read stay", run.cells(0, 0), "180 100 0 0");
        says("How many characters it had.");
        due("6", planned(1, 4, "#1a\nb\n").ask(EditionGrid::clear), 6);
        due("0", run.ask(EditionGrid::clear), 0);
    }

    private static void read() {
        says("`int read()`: Reads the text (which stays): how many stories, in place of those that there were; all pages are free, "
                + "nothing is planned.");
        Replay run = planned(1, 4, "#1a\nb\n#1a\nb\n");
        due("two stories", run.ask(EditionGrid::read), 2);
        due("the text stays", run.copy().read().ask(EditionGrid::clear), 12);
        due("all is free", run.copy().read().cells(0, 0), "0 0 0 0");
        due("nothing is planned", heldFor(run.copy().read(), 0), -1);
        Replay other = run.copy().clear().feed("#1c\nd\n").read().plan();
        due("in place of them", other.units(0, 0, 0), "cccc............");
        due("one alone", heldFor(other, 1), -1);
        Replay figure = planned(1, 4, "#1a\n=12\nb\nb\n").clear().feed("#1c\nd\n").read().plan();
        due("their figures are gone", figure.cells(0, 0), "180 100 0 0");
        says("With a fault: NONE, and there are no stories.");
        Replay wrong = run.copy().feed("!");
        due("NONE", wrong.ask(EditionGrid::read), -1);
        due("no stories", wrong.copy().read().ask(EditionGrid::plan), -1);
        due("those that were read stay before it", wrong.ask(EditionGrid::plan), 2);
    }

    private static void fault() {
        says("`int fault()`: The place (from 0) of the fault that the latest read() met; NONE when it met none, or there was none.");
        due("place 0", faultIn("a"), 0);
        due("place 2", faultIn("#1!"), 2);
        due("it met none", faultIn("#1a\nb\n"), -1);
        due("there was no read()", fresh().feed("a").ask(EditionGrid::fault), -1);
        Replay run = fresh().feed("#1a\nb\n!").read().clear().feed("#1a\nb\n");
        due("the latest one", run.ask(EditionGrid::fault), 6);
        due("the one behind it", run.read().ask(EditionGrid::fault), -1);
    }

    private static void plan() {
        says("`int plan()`: All pages are free; the stories are planned.");
        Replay run = planned(1, 4, "#1a\nab cd\n");
        due("planned once", run.cells(0, 0), "180 100 101 0");
        run.metric('a', 1).metric('b', 1).metric('c', 1).metric('d', 1).plan();
        due("planned again, where it was", run.cells(0, 0), "180 100 0 0");
        Replay held = run.copy().metric('a', 9).metric('b', 9).plan();
        due("held now", heldFor(held, 0), 1);
        due("its part is gone", held.ask(g -> g.part(0, 0, 4)), -1);
        due("all is free", held.cells(0, 0), "0 0 0 0");
        due("not held any more", held.metric('a', 1).metric('b', 1).plan().cells(0, 0), "180 100 0 0");
        says("How many are not held; NONE when there are no stories.");
        due("one of one", run.ask(EditionGrid::plan), 1);
        due("one of three", planned(1, 4, "#1a\nabcde\n#1b\n=11\n#1c\nab\n").ask(EditionGrid::plan), 1);
        due("none of one", planned(1, 4, "#1b\n=11\n").ask(EditionGrid::plan), 0);
        due("no stories", fresh().ask(EditionGrid::plan), -1);
    }

    private static Replay oneOfEach() {
        return planned(1, 4, "#9a\nabcde\nab\n#8b\n=11\n#7c\n=19\nab ab\n#6d\nab ab ab ab\n");
    }

    private static void held() {
        says("`int held(int story)`: Why a story is held: 1 to 3; 0 when it is not, NONE when there is none such or it is not "
                + "planned.");
        int[] due = {1, 2, 3, 0, -1};
        for (int story = 0; story < due.length; story++) {
            due("story " + story, heldFor(oneOfEach(), story), due[story]);
            due("story " + story + ", not planned", heldFor(oneOfEach().read(), story), -1);
        }
        due("story -1", heldFor(oneOfEach(), -1), -1);
    }

    private static void lines() {
        says("`int lines(int story)`: How many lines a story has in all (also if it is held for 2 or 3); 0 when it is held for 1; "
                + "NONE as for held().");
        int[] due = {0, 0, 2, 4, -1};
        for (int i = 0; i < due.length; i++) {
            int story = i;
            due("story " + story, oneOfEach().ask(g -> g.lines(story)), due[story]);
            due("story " + story + ", not planned", oneOfEach().read().ask(g -> g.lines(story)), -1);
        }
        String paragraph = "ab" + " ab".repeat(15) + "\n";
        due("held for 2", linesOf(planned(4, 16, "#1a\n" + paragraph.repeat(3))), 48);
        due("story -1", oneOfEach().ask(g -> g.lines(-1)), -1);
    }

    private static void cost() {
        says("`int cost(int story, int p)`: The cost of paragraph p of a story; NONE as for held(), or when there is no such "
                + "paragraph, or it cannot be broken.");
        due("it cannot be broken", oneOfEach().ask(g -> g.cost(0, 0)), -1);
        due("it can, in the same story", oneOfEach().ask(g -> g.cost(0, 1)), 0);
        due("no paragraph at all", oneOfEach().ask(g -> g.cost(1, 0)), -1);
        due("held for 3", oneOfEach().ask(g -> g.cost(2, 0)), 64);
        due("not held", oneOfEach().ask(g -> g.cost(3, 0)), 3 * 64);
        due("paragraph 1 of 1", oneOfEach().ask(g -> g.cost(3, 1)), -1);
        due("paragraph 4", oneOfEach().ask(g -> g.cost(3, 4)), -1);
        due("paragraph -1", oneOfEach().ask(g -> g.cost(3, -1)), -1);
        due("no such story", oneOfEach().ask(g -> g.cost(4, 0)), -1);
        due("not planned", oneOfEach().read().ask(g -> g.cost(3, 0)), -1);
    }

    private static void part() {
        says("`int part(int story, int part, int what)`: Of part 0 or 1 of a story that is not held: the page (what = 0), x (1), y "
                + "(2), k (3), its height (4), its first line (5), how many lines (6), how many of these are in its column 0 .. "
                + "3 (7 .. 10, 0 beyond k); NONE when there is no such part, or for another what.");
        String none = "-1 -1 -1 -1 -1 -1 -1 -1 -1 -1 -1";
        Replay run = planned(2, 6, "#9a\nab\n#1b\nab ab ab ab\nab ab ab ab\nab\nab ab ab ab\n");
        due("a story in one part", run.told(0, 0), "0 0 0 2 2 0 1 1 0 0 0");
        due("it has no part 1", run.told(0, 1), none);
        due("nor a part 2", run.told(0, 2), none);
        due("room for 3 and 2", run.told(1, 0), "0 0 2 2 4 0 4 2 2 0 0");
        due("the other lines", run.told(1, 1), "1 0 0 2 6 4 9 5 4 0 0");
        due("no part 2", run.told(1, 2), none);
        due("no part -1", run.told(1, -1), none);
        due("what = 11", run.ask(g -> g.part(0, 0, 11)), -1);
        due("what = -1", run.ask(g -> g.part(0, 0, -1)), -1);
        for (int story = 0; story < 3; story++) {
            due("held for " + (story + 1), oneOfEach().told(story, 0), none);
        }
        due("no such story", run.told(2, 0), none);
        due("not planned", run.read().told(0, 0), none);
    }

    private static void cell() {
        says("`int cell(int page, int column, int row)`: What stands in a cell: 100 * (story + 1) and the line (its number in the "
                + "story, from 0) more; or 100 * (story + 1) and 80 for a headline, 81 a figure, 82 >, 83 <; or 90 for a cell of "
                + "a place that has nothing.");
        Replay run = planned(2, 5, "#8b\nab\n#9a\n=12\nab\nab\nab ab ab\nab ab ab ab\n");
        due("a headline, a figure and lines", run.cells(0, 0), "280 281 281 200 201");
        due("lines and >", run.cells(0, 1), "280 202 203 204 282");
        due("< and lines, and a story below", run.cells(1, 0), "283 205 206 180 100");
        due("nothing beside <, nor beside a line", run.cells(1, 1), "90 207 208 180 90");
        says("0 when the cell is free; NONE when there is none such.");
        due("a page without stories", run.cells(2, 0), "0 0 0 0 0");
        due("page 3", run.ask(g -> g.cell(3, 0, 0)), -1);
        due("page -1", run.ask(g -> g.cell(-1, 0, 0)), -1);
        due("column 2", run.ask(g -> g.cell(0, 2, 0)), -1);
        due("column -1", run.ask(g -> g.cell(1, -1, 0)), -1);
        due("row 5", run.ask(g -> g.cell(0, 0, 5)), -1);
        due("row -1", run.ask(g -> g.cell(0, 1, -1)), -1);
    }

    private static void ink() {
        says("`int ink(int page, int column, int row, int x)`: What is seen; NONE when there is no such cell, or x is not 0 .. W - "
                + "1.");
        Replay run = planned(1, 4, "#1a\nabcd\n");
        due("what is seen", run.units(0, 0, 1), "aaaabbbbccccdddd");
        due("x = -1", run.ask(g -> g.ink(0, 0, 1, -1)), -1);
        due("x = 16", run.ask(g -> g.ink(0, 0, 1, 16)), -1);
        due("x = 17", run.ask(g -> g.ink(0, 0, 1, 17)), -1);
        due("no such page", run.ask(g -> g.ink(3, 0, 1, 0)), -1);
        due("no such column", run.ask(g -> g.ink(0, 1, 1, 0)), -1);
        due("no such row", run.ask(g -> g.ink(0, 0, 4, 0)), -1);
    }

    /** These leave things free; that the class has nothing else that can be used is shown by FaceTest. */
    private static void notPromised() {
        says("How the state is held inside the object is free, as are the speed of each call, the text of toString and the "
                + "behaviour of equals and hashCode.");
        says("Use of one object from several threads at once is not promised to be safe.");
        says("Nothing is promised beyond the answers and state changes described above, and nothing about an object after its "
                + "512th call.");
    }

    private static void noSentenceIsLeftOut() throws IOException {
        if (!Files.isReadable(DOCUMENT)) {
            return;
        }
        String face = "(?s)```java.*?```";
        String text = Files.readString(DOCUMENT).replaceAll(face, "").replaceAll("(?m)^(#|```).*$", "");
        String document = text.replaceAll("\\s+", " ").strip();
        String said = String.join(" ", SENTENCES);
        int same = 0;
        while (same < Math.min(document.length(), said.length()) && document.charAt(same) == said.charAt(same)) {
            same++;
        }
        VERDICT.due("the document from here on", document.substring(same), said.substring(same));
    }
}
