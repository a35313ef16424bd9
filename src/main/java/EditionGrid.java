import java.util.Arrays;

/** Pages of a newspaper, from markup to each unit of a line; DOC.md has the promises. */
public final class EditionGrid {
    public static final int NONE = -1;
    public static final int ROOM = -2;

    private static final int PAGES = 3;
    private static final int MOST_COLUMNS = 4;
    private static final int MOST_ROWS = 16;
    private static final int MOST_TEXT = 480;
    private static final int MOST_FED = 8;
    private static final int MOST_STORIES = 4;
    private static final int MOST_PARAGRAPHS = 4;
    private static final int MOST_LETTERS = 12;
    private static final int MOST_LINES = 40;
    private static final int LETTERS = 26;
    private static final int LINE_END = 10;
    private static final int SPACE_WIDTH = 3;
    private static final int HYPHEN_WIDTH = 2;

    // How a line ends: not at all, behind a word, in a cut word, with its paragraph.
    private static final int NO_END = 0;
    private static final int BEHIND_WORD = 1;
    private static final int AT_CUT = 2;
    private static final int LAST = 3;

    // What a cell holds beside lines, which have the numbers below these.
    private static final int HEADLINE = 80;
    private static final int FIGURE = 81;
    private static final int ONWARD = 82;
    private static final int BACKWARD = 83;
    private static final int NOTHING = 90;

    private static final int CANNOT_BREAK = 1;
    private static final int WRONG_LENGTH = 2;
    private static final int NO_PLACE = 3;

    private final int measure;
    private final int[] widths = new int[LETTERS];
    private final char[] text = new char[MOST_TEXT];
    private final char[] word = new char[MOST_FED];
    private final Reader reader = new Reader();
    private final Breaker breaker;
    private final Planner planner;
    private final Painter painter;
    private int textLength;
    private boolean planned;

    public EditionGrid(int columns, int rows, int width) {
        measure = within(width, 16, 60);
        breaker = new Breaker(measure);
        planner = new Planner(within(columns, 1, MOST_COLUMNS), within(rows, 4, MOST_ROWS));
        painter = new Painter(measure);
        Arrays.fill(widths, 4);
    }

    public boolean metric(char letter, int width) {
        if (!isLetter(letter) || width < 1 || width > 9) {
            return false;
        }
        widths[letter - 'a'] = width;
        return true;
    }

    public int pattern(long signs, int n, long values) {
        return breaker.book.put(signs, n, values);
    }

    public int cuts(long letters, int n) {
        if (n < 1 || n > MOST_FED) {
            return NONE;
        }
        for (int i = 0; i < n; i++) {
            int sign = byteOf(letters, n, i);
            if (!isLetter(sign)) {
                return NONE;
            }
            word[i] = (char) sign;
        }
        return breaker.book.cutsOf(word, 0, n);
    }

    public int feed(long characters, int n) {
        if (n < 1 || n > MOST_FED) {
            return NONE;
        }
        for (int i = 0; i < n; i++) {
            int character = byteOf(characters, n, i);
            if (character != LINE_END && (character < 32 || character > 126)) {
                return NONE;
            }
        }
        if (textLength + n > MOST_TEXT) {
            return ROOM;
        }
        for (int i = 0; i < n; i++) {
            text[textLength + i] = (char) byteOf(characters, n, i);
        }
        textLength += n;
        return textLength;
    }

    public int clear() {
        int had = textLength;
        textLength = 0;
        return had;
    }

    public int read() {
        planner.sheets.wipe();
        planned = false;
        reader.readText(text, textLength);
        return reader.storyCount == 0 ? NONE : reader.storyCount;
    }

    public int fault() {
        return reader.faultPlace;
    }

    public int plan() {
        if (reader.storyCount == 0) {
            return NONE;
        }
        planner.sheets.wipe();
        painter.keep(reader.kept, widths);
        int placed = 0;
        for (int urgency = 9; urgency >= 0; urgency--) {
            for (int i = 0; i < reader.storyCount; i++) {
                Story story = reader.stories[i];
                if (story.urgency == urgency) {
                    breaker.breakStory(story, reader.kept, widths);
                    planner.placeStory(story);
                    placed += story.reason == 0 ? 1 : 0;
                }
            }
        }
        planned = true;
        return placed;
    }

    public int held(int story) {
        return isPlanned(story) ? reader.stories[story].reason : NONE;
    }

    public int lines(int story) {
        if (!isPlanned(story)) {
            return NONE;
        }
        Story asked = reader.stories[story];
        return asked.reason == CANNOT_BREAK ? 0 : asked.lineCount;
    }

    public int cost(int story, int p) {
        if (!isPlanned(story) || p < 0 || p >= reader.stories[story].paragraphCount) {
            return NONE;
        }
        return reader.stories[story].costs[p];
    }

    public int part(int story, int part, int what) {
        if (!isPlanned(story) || part < 0 || part >= reader.stories[story].partCount) {
            return NONE;
        }
        return reader.stories[story].parts[part].tell(what);
    }

    public int cell(int page, int column, int row) {
        return planner.sheets.has(page, column, row) ? planner.sheets.codeAt(page, column, row) : NONE;
    }

    public int ink(int page, int column, int row, int x) {
        if (!planner.sheets.has(page, column, row) || x < 0 || x >= measure) {
            return NONE;
        }
        int code = planner.sheets.codeAt(page, column, row);
        int story = code / 100 - 1;
        if (!isPlanned(story)) {
            return 0;
        }
        return painter.seen(reader.stories[story], code % 100, column, x);
    }

    private boolean isPlanned(int story) {
        return planned && story >= 0 && story < reader.storyCount;
    }

    private static int within(int value, int least, int most) {
        return Math.max(least, Math.min(most, value));
    }

    private static boolean isLetter(int sign) {
        return sign >= 'a' && sign <= 'z';
    }

    private static boolean isDigit(int sign, int least) {
        return sign >= '0' + least && sign <= '9';
    }

    /** Byte i, from the highest on, of the n lowest bytes. */
    private static int byteOf(long packed, int n, int i) {
        return (int) (packed >>> (8 * (n - 1 - i))) & 255;
    }

    private static boolean hasBit(long bits, int place) {
        return ((bits >>> place) & 1L) != 0;
    }

    /** The patterns, and where they allow a word to be cut. */
    private static final class PatternBook {
        private static final int MOST = 20;
        private static final int MOST_SIGNS = 6;

        private final long[] signRows = new long[MOST];
        private final long[] valueRows = new long[MOST];
        private final int[] signCounts = new int[MOST];
        private final int[] greatest = new int[MOST_LETTERS + 3];
        private int size;

        int put(long signs, int n, long values) {
            if (!areSigns(signs, n) || !areValues(values, n + 1)) {
                return NONE;
            }
            long row = signs & lowBytes(n);
            int at = placeOf(row);
            if (at >= MOST) {
                return ROOM;
            }
            signRows[at] = row;
            signCounts[at] = n;
            valueRows[at] = values;
            size = Math.max(size, at + 1);
            return size;
        }

        /** The sum of 2^k for each k behind whose letter the word text[from .. to) may be cut. */
        int cutsOf(char[] text, int from, int to) {
            int letters = Math.min(to - from, MOST_LETTERS);
            Arrays.fill(greatest, 0);
            long window = 0;
            for (int i = 0; i < letters + 2; i++) {
                boolean isEdge = i == 0 || i == letters + 1;
                window = (window << 8) | (isEdge ? '.' : text[from + i - 1]);
                raiseValues(window, i + 1);
            }
            int sum = 0;
            for (int k = 2; k <= letters - 2; k++) {
                sum |= (greatest[k + 1] & 1) << k;
            }
            return sum;
        }

        /** Sets the values of all patterns whose signs are the last ones of the window. */
        private void raiseValues(long window, int end) {
            for (int p = 0; p < size; p++) {
                int n = signCounts[p];
                if (n <= end && (window & lowBytes(n)) == signRows[p]) {
                    for (int i = 0; i <= n; i++) {
                        int value = byteOf(valueRows[p], n + 1, i);
                        greatest[end - n + i] = Math.max(greatest[end - n + i], value);
                    }
                }
            }
        }

        private int placeOf(long row) {
            for (int p = 0; p < size; p++) {
                if (signRows[p] == row) {
                    return p;
                }
            }
            return size;
        }

        private static boolean areSigns(long signs, int n) {
            if (n < 1 || n > MOST_SIGNS) {
                return false;
            }
            boolean hasLetter = false;
            for (int i = 0; i < n; i++) {
                int sign = byteOf(signs, n, i);
                boolean mayBeDot = i == 0 || i == n - 1;
                if (isLetter(sign)) {
                    hasLetter = true;
                } else if (sign != '.' || !mayBeDot) {
                    return false;
                }
            }
            return hasLetter;
        }

        private static boolean areValues(long values, int n) {
            for (int i = 0; i < n; i++) {
                if (byteOf(values, n, i) > 9) {
                    return false;
                }
            }
            return true;
        }

        private static long lowBytes(int n) {
            return (1L << (8 * n)) - 1;
        }
    }

    /** A story as it was read, and what the latest plan made of it. */
    private static final class Story {
        private final int number;
        private final int[] paragraphFrom = new int[MOST_PARAGRAPHS];
        private final int[] paragraphTo = new int[MOST_PARAGRAPHS];
        private final int[] costs = new int[MOST_PARAGRAPHS];
        private final int[] lineFrom = new int[MOST_LINES];
        private final int[] lineTo = new int[MOST_LINES];
        private final int[] lineEnd = new int[MOST_LINES];
        private final Part[] parts = {new Part(), new Part()};
        private int urgency;
        private int headlineFrom;
        private int headlineTo;
        private int paragraphCount;
        private int figureColumns;
        private int figureRows;
        private int reason;
        private int lineCount;
        private int partCount;
        private long badBreaks;

        Story(int number) {
            this.number = number;
        }

        void forgetText() {
            paragraphCount = 0;
            figureColumns = 0;
            figureRows = 0;
        }

        void forgetPlan() {
            reason = 0;
            lineCount = 0;
            partCount = 0;
            badBreaks = 0;
        }

        /** Lines beyond the most are counted alone: such a story is held. */
        void addLine(int from, int to, int end) {
            if (lineCount < MOST_LINES) {
                lineFrom[lineCount] = from;
                lineTo[lineCount] = to;
                lineEnd[lineCount] = end;
            }
            lineCount++;
        }

        /** Break b is the one before line b; called when the paragraph's lines are all there. */
        void markBadBreaks(int firstLine) {
            int lastLine = lineCount - 1;
            if (lastLine > firstLine && lastLine < MOST_LINES) {
                badBreaks |= (1L << (firstLine + 1)) | (1L << lastLine);
            }
        }

        /** Where columns may end: all breaks that are not bad, the story's begin and its end. */
        long goodEnds() {
            return ((1L << (lineCount + 1)) - 1) & ~badBreaks;
        }
    }

    /** Lines of a story in their place. */
    private static final class Part {
        private final int[] inColumn = new int[MOST_COLUMNS];
        private int page;
        private int x;
        private int y;
        private int k;
        private int height;
        private int firstLine;
        private int lineCount;

        void stand(int page, int x, int y, int k, int height) {
            this.page = page;
            this.x = x;
            this.y = y;
            this.k = k;
            this.height = height;
        }

        void takeLines(int first, int end) {
            firstLine = first;
            lineCount = end - first;
        }

        int tell(int what) {
            switch (what) {
                case 0:
                    return page;
                case 1:
                    return x;
                case 2:
                    return y;
                case 3:
                    return k;
                case 4:
                    return height;
                case 5:
                    return firstLine;
                case 6:
                    return lineCount;
                default:
                    return what >= 7 && what < 7 + MOST_COLUMNS ? inColumn[what - 7] : NONE;
            }
        }
    }

    /** Reads stories from a copy of the text, as the text may change while they are there. */
    private static final class Reader {
        private static final int AT_END = -1;
        private static final int MOST_IN_HEADLINE = 4;
        private static final int MOST_IN_PARAGRAPH = 16;

        private final char[] kept = new char[MOST_TEXT];
        private final Story[] stories = new Story[MOST_STORIES];
        private int keptLength;
        private int at;
        private int storyCount;
        private int faultPlace = NONE;

        Reader() {
            for (int i = 0; i < MOST_STORIES; i++) {
                stories[i] = new Story(i);
            }
        }

        void readText(char[] text, int length) {
            keptLength = Math.min(length, MOST_TEXT);
            System.arraycopy(text, 0, kept, 0, keptLength);
            at = 0;
            storyCount = 0;
            faultPlace = NONE;
            boolean isRight = keptLength > 0;
            for (int i = 0; i <= MOST_STORIES && isRight && at < keptLength; i++) {
                isRight = storyCount < MOST_STORIES && readStory(stories[storyCount]);
                storyCount++;
            }
            if (!isRight) {
                storyCount = 0;
                faultPlace = at;
            }
        }

        // Each of the methods below answers whether all was right; if not, at is the fault.

        private boolean readStory(Story story) {
            story.forgetText();
            if (!pass('#') || !isDigit(next(), 0)) {
                return false;
            }
            story.urgency = next() - '0';
            at++;
            story.headlineFrom = at;
            if (!readWords(MOST_IN_HEADLINE)) {
                return false;
            }
            story.headlineTo = at;
            boolean isRight = pass(LINE_END) && readPart(story);
            for (int i = at; i < keptLength && isRight && at < keptLength && next() != '#'; i++) {
                isRight = readPart(story);
            }
            return isRight;
        }

        private boolean readPart(Story story) {
            if (next() == '=') {
                return story.figureColumns == 0 && readFigure(story);
            }
            if (story.paragraphCount >= MOST_PARAGRAPHS) {
                return false;
            }
            story.paragraphFrom[story.paragraphCount] = at;
            if (!readWords(MOST_IN_PARAGRAPH)) {
                return false;
            }
            story.paragraphTo[story.paragraphCount] = at;
            story.paragraphCount++;
            return pass(LINE_END);
        }

        private boolean readFigure(Story story) {
            at++;
            if (!isDigit(next(), 1)) {
                return false;
            }
            story.figureColumns = next() - '0';
            at++;
            if (!isDigit(next(), 1)) {
                return false;
            }
            story.figureRows = next() - '0';
            at++;
            return pass(LINE_END);
        }

        private boolean readWords(int most) {
            for (int i = 0; i < most; i++) {
                if (!readWord()) {
                    return false;
                }
                if (!pass(' ')) {
                    return true;
                }
            }
            return false;
        }

        private boolean readWord() {
            int letters = 0;
            while (letters < MOST_LETTERS && isLetter(next())) {
                letters++;
                at++;
            }
            return letters > 0 && !isLetter(next());
        }

        private boolean pass(int character) {
            if (next() != character) {
                return false;
            }
            at++;
            return true;
        }

        private int next() {
            return at < keptLength ? kept[at] : AT_END;
        }
    }

    /** Breaks paragraphs into lines at the least cost. */
    private static final class Breaker {
        private static final int MOST_CHARACTERS = 16 * MOST_LETTERS + 15;
        private static final int HYPHEN_COST = 100;

        private final PatternBook book = new PatternBook();
        private final int measure;
        private final int[] unitsBefore = new int[MOST_CHARACTERS + 1];
        private final int[] endAt = new int[MOST_CHARACTERS + 1];
        private final int[] leastFrom = new int[MOST_CHARACTERS + 1];
        private final int[] lineToFrom = new int[MOST_CHARACTERS + 1];
        private int length;

        Breaker(int measure) {
            this.measure = measure;
        }

        void breakStory(Story story, char[] text, int[] widths) {
            story.forgetPlan();
            for (int p = 0; p < story.paragraphCount; p++) {
                int from = story.paragraphFrom[p];
                length = Math.min(story.paragraphTo[p] - from, MOST_CHARACTERS);
                measureCharacters(text, from, widths);
                markEnds(text, from);
                story.costs[p] = leastCost();
                if (story.costs[p] == NONE) {
                    story.reason = CANNOT_BREAK;
                } else {
                    addLines(story, from);
                }
            }
        }

        private void measureCharacters(char[] text, int from, int[] widths) {
            for (int i = 0; i < length; i++) {
                char c = text[from + i];
                unitsBefore[i + 1] = unitsBefore[i] + (isLetter(c) ? widths[c - 'a'] : SPACE_WIDTH);
            }
        }

        private void markEnds(char[] text, int from) {
            int wordFrom = 0;
            for (int i = 1; i <= length; i++) {
                endAt[i] = NO_END;
                if (i == length || text[from + i] == ' ') {
                    markWord(wordFrom, i, book.cutsOf(text, from + wordFrom, from + i));
                    wordFrom = i + 1;
                }
            }
            endAt[length] = LAST;
        }

        private void markWord(int wordFrom, int wordTo, int cutSum) {
            for (int i = wordFrom + 1; i < wordTo; i++) {
                if (hasBit(cutSum, i - wordFrom)) {
                    endAt[i] = AT_CUT;
                }
            }
            endAt[wordTo] = BEHIND_WORD;
        }

        /** Goes from the end to the begin, so that what follows a line is known before it. */
        private int leastCost() {
            for (int i = length - 1; i >= 0; i--) {
                boolean isBegin = i == 0 || endAt[i] == AT_CUT || endAt[i - 1] == BEHIND_WORD;
                if (isBegin) {
                    chooseLine(i);
                }
            }
            return leastFrom[0];
        }

        /** Of equal costs the later end counts: it gives the line the most letters. */
        private void chooseLine(int from) {
            leastFrom[from] = NONE;
            for (int to = from + 1; to <= length; to++) {
                if (unitsBefore[to] - unitsBefore[from] > measure) {
                    break;
                }
                int sum = costWith(from, to);
                if (sum != NONE && (leastFrom[from] == NONE || sum <= leastFrom[from])) {
                    leastFrom[from] = sum;
                    lineToFrom[from] = to;
                }
            }
        }

        /** The cost from this line on; NONE when it or the rest cannot be. */
        private int costWith(int from, int to) {
            int end = endAt[to];
            int left = measure - (unitsBefore[to] - unitsBefore[from]) - (end == AT_CUT ? HYPHEN_WIDTH : 0);
            if (end == NO_END || left < 0) {
                return NONE;
            }
            if (end == LAST) {
                return 0;
            }
            int rest = leastFrom[nextBegin(to)];
            return rest == NONE ? NONE : rest + left * left + (end == AT_CUT ? HYPHEN_COST : 0);
        }

        private int nextBegin(int to) {
            return endAt[to] == AT_CUT ? to : to + 1;
        }

        private void addLines(Story story, int from) {
            int firstLine = story.lineCount;
            int begin = 0;
            for (int i = 0; i < length && begin < length; i++) {
                int to = lineToFrom[begin];
                story.addLine(from + begin, from + to, endAt[to]);
                begin = nextBegin(to);
            }
            story.markBadBreaks(firstLine);
        }
    }

    /** Columns side by side with their rooms; sets of line numbers are the bits of a long. */
    private static final class Columns {
        private final int[] rooms = new int[MOST_COLUMNS];
        private final long[] fillableFrom = new long[MOST_COLUMNS + 1];
        private int count;

        /** False when a room would be below 0, or the figure has more columns. */
        boolean setRooms(Story story, int firstLine, int k, int room, int signRows) {
            int figureColumns = firstLine == 0 ? story.figureColumns : 0;
            if (figureColumns > k) {
                return false;
            }
            count = k;
            for (int c = 0; c < k; c++) {
                rooms[c] = room - (c < figureColumns ? story.figureRows : 0) - (c == k - 1 ? signRows : 0);
                if (rooms[c] < 0) {
                    return false;
                }
            }
            return true;
        }

        /** The line numbers before which these columns can end when they begin with the first line. */
        long endsFrom(int firstLine, long goodEnds) {
            long ends = 1L << firstLine;
            for (int c = 0; c < count; c++) {
                long next = 0;
                for (int taken = 0; taken <= rooms[c]; taken++) {
                    next |= ends << taken;
                }
                ends = next & goodEnds;
            }
            return ends;
        }

        /** Fills the columns with the lines firstLine .. endLine - 1, which they can take. */
        void fill(int firstLine, int endLine, long goodEnds, int[] inColumn) {
            fillableFrom[count] = 1L << endLine;
            for (int c = count - 1; c > 0; c--) {
                long begins = 0;
                for (int taken = 0; taken <= rooms[c]; taken++) {
                    begins |= fillableFrom[c + 1] >>> taken;
                }
                fillableFrom[c] = begins & goodEnds;
            }
            Arrays.fill(inColumn, 0);
            int line = firstLine;
            for (int c = 0; c < count; c++) {
                inColumn[c] = mostFor(c, line);
                line += inColumn[c];
            }
        }

        private int mostFor(int column, int line) {
            for (int taken = rooms[column]; taken > 0; taken--) {
                if (hasBit(fillableFrom[column + 1], line + taken)) {
                    return taken;
                }
            }
            return 0;
        }
    }

    /** The cells of the pages: what stands in each, and which are free. */
    private static final class Sheets {
        private final int columns;
        private final int rows;
        private final int[] codes = new int[PAGES * MOST_COLUMNS * MOST_ROWS];
        private final int[] takenRows = new int[PAGES * MOST_COLUMNS];

        Sheets(int columns, int rows) {
            this.columns = columns;
            this.rows = rows;
        }

        void wipe() {
            Arrays.fill(codes, 0);
            Arrays.fill(takenRows, 0);
        }

        boolean has(int page, int column, int row) {
            return page >= 0 && page < PAGES && column >= 0 && column < columns && row >= 0 && row < rows;
        }

        int codeAt(int page, int column, int row) {
            return codes[(page * MOST_COLUMNS + column) * MOST_ROWS + row];
        }

        void put(int page, int column, int row, int code) {
            codes[(page * MOST_COLUMNS + column) * MOST_ROWS + row] = code;
            takenRows[page * MOST_COLUMNS + column] |= 1 << row;
        }

        /** Sets the part on the first free place of the page with k columns, if there is one. */
        boolean standFirst(Part part, int page, int k, int height) {
            int wanted = (1 << height) - 1;
            for (int y = 0; y + height <= rows; y++) {
                for (int x = 0; x + k <= columns; x++) {
                    if ((takenIn(page, x, k) & (wanted << y)) == 0) {
                        part.stand(page, x, y, k, height);
                        return true;
                    }
                }
            }
            return false;
        }

        /** The greatest height with which a place there is free. */
        int freeHeight(int page, int x, int y, int k) {
            int taken = takenIn(page, x, k);
            int height = 0;
            while (y + height < rows && !hasBit(taken, y + height)) {
                height++;
            }
            return height;
        }

        /** The rows, as bits, that are not free in all of k columns. */
        private int takenIn(int page, int x, int k) {
            int taken = 0;
            for (int c = x; c < x + k; c++) {
                taken |= takenRows[page * MOST_COLUMNS + c];
            }
            return taken;
        }
    }

    /** Finds the places of stories and sets them there. */
    private static final class Planner {
        private static final int LEAST_LINES = 2;

        private final Sheets sheets;
        private final Columns columns = new Columns();
        private final int[] heights = new int[MOST_COLUMNS + 1];
        private long hopelessRests;

        Planner(int columnCount, int rowCount) {
            sheets = new Sheets(columnCount, rowCount);
        }

        void placeStory(Story story) {
            if (story.reason == CANNOT_BREAK) {
                return;
            }
            if (story.lineCount == 0 || story.lineCount > MOST_LINES) {
                story.reason = WRONG_LENGTH;
            } else if (placeWhole(story, 0, 0)) {
                story.partCount = 1;
                putFirstPart(story, 0);
            } else if (placeJump(story)) {
                story.partCount = 2;
                putFirstPart(story, 1);
                putSecondPart(story);
            } else {
                story.reason = NO_PLACE;
            }
        }

        /** Places the lines from the first one on together; the rest of a story is its part 1. */
        private boolean placeWhole(Story story, int firstLine, int firstPage) {
            Part part = story.parts[firstLine == 0 ? 0 : 1];
            for (int k = 1; k <= sheets.columns; k++) {
                heights[k] = leastHeight(story, firstLine, k);
            }
            for (int page = firstPage; page < PAGES; page++) {
                for (int k = sheets.columns; k >= 1; k--) {
                    if (heights[k] != NONE && sheets.standFirst(part, page, k, heights[k])) {
                        part.takeLines(firstLine, story.lineCount);
                        return true;
                    }
                }
            }
            return false;
        }

        private int leastHeight(Story story, int firstLine, int k) {
            for (int room = 1; room < sheets.rows; room++) {
                if (columns.setRooms(story, firstLine, k, room, 0)
                        && hasBit(columns.endsFrom(firstLine, story.goodEnds()), story.lineCount)) {
                    return room + 1;
                }
            }
            return NONE;
        }

        private boolean placeJump(Story story) {
            for (int page = 0; page < PAGES - 1; page++) {
                hopelessRests = 0;
                for (int k = sheets.columns; k >= 1; k--) {
                    for (int y = 0; y < sheets.rows; y++) {
                        for (int x = 0; x + k <= sheets.columns; x++) {
                            if (jumpFrom(story, page, x, y, k)) {
                                return true;
                            }
                        }
                    }
                }
            }
            return false;
        }

        /** Rests that found no place behind this page are not tried again: no cell gets free. */
        private boolean jumpFrom(Story story, int page, int x, int y, int k) {
            int height = sheets.freeHeight(page, x, y, k);
            if (height < 2 || !columns.setRooms(story, 0, k, height - 1, 1)) {
                return false;
            }
            int split = greatestSplit(story);
            if (split == NONE || hasBit(hopelessRests, split)) {
                return false;
            }
            if (!placeWhole(story, split, page + 1)) {
                hopelessRests |= 1L << split;
                return false;
            }
            story.parts[0].stand(page, x, y, k, height);
            story.parts[0].takeLines(0, split);
            return true;
        }

        private int greatestSplit(Story story) {
            long ends = columns.endsFrom(0, story.goodEnds());
            for (int split = story.lineCount - LEAST_LINES; split >= LEAST_LINES; split--) {
                if (hasBit(ends, split)) {
                    return split;
                }
            }
            return NONE;
        }

        private void putFirstPart(Story story, int signRows) {
            Part part = story.parts[0];
            int base = 100 * (story.number + 1);
            fillPart(story, part, signRows);
            putNothing(part);
            for (int c = 0; c < part.k; c++) {
                sheets.put(part.page, part.x + c, part.y, base + HEADLINE);
            }
            for (int c = 0; c < story.figureColumns; c++) {
                for (int row = 1; row <= story.figureRows; row++) {
                    sheets.put(part.page, part.x + c, part.y + row, base + FIGURE);
                }
            }
            putLines(part, base, story.figureColumns, story.figureRows);
            if (signRows > 0) {
                sheets.put(part.page, part.x + part.k - 1, part.y + part.height - 1, base + ONWARD);
            }
        }

        private void putSecondPart(Story story) {
            Part part = story.parts[1];
            int base = 100 * (story.number + 1);
            fillPart(story, part, 0);
            putNothing(part);
            sheets.put(part.page, part.x, part.y, base + BACKWARD);
            putLines(part, base, 0, 0);
        }

        private void fillPart(Story story, Part part, int signRows) {
            if (columns.setRooms(story, part.firstLine, part.k, part.height - 1, signRows)) {
                columns.fill(part.firstLine, part.firstLine + part.lineCount, story.goodEnds(), part.inColumn);
            }
        }

        private void putNothing(Part part) {
            for (int c = 0; c < part.k; c++) {
                for (int row = 0; row < part.height; row++) {
                    sheets.put(part.page, part.x + c, part.y + row, NOTHING);
                }
            }
        }

        private void putLines(Part part, int base, int figureColumns, int figureRows) {
            int line = part.firstLine;
            for (int c = 0; c < part.k; c++) {
                int top = part.y + 1 + (c < figureColumns ? figureRows : 0);
                for (int i = 0; i < part.inColumn[c]; i++) {
                    sheets.put(part.page, part.x + c, top + i, base + line);
                    line++;
                }
            }
        }
    }

    /** Tells what is seen, by the widths that counted at the latest plan. */
    private static final class Painter {
        private static final int HYPHEN = 45;
        private static final int FIGURE_INK = 35;

        private final int measure;
        private final char[] text = new char[MOST_TEXT];
        private final int[] widths = new int[LETTERS];

        Painter(int measure) {
            this.measure = measure;
        }

        void keep(char[] plannedText, int[] plannedWidths) {
            System.arraycopy(plannedText, 0, text, 0, MOST_TEXT);
            System.arraycopy(plannedWidths, 0, widths, 0, LETTERS);
        }

        int seen(Story story, int kind, int column, int x) {
            switch (kind) {
                case HEADLINE:
                    int unit = (column - story.parts[0].x) * measure + x;
                    return rowUnit(story.headlineFrom, story.headlineTo, 0, 0, unit);
                case FIGURE:
                    return FIGURE_INK;
                case ONWARD:
                    return signUnit('>', story.parts[1].page, x);
                case BACKWARD:
                    return signUnit('<', story.parts[0].page, x);
                default:
                    return kind < MOST_LINES ? lineUnit(story, kind, x) : 0;
            }
        }

        private static int signUnit(int sign, int page, int x) {
            if (x == 0) {
                return sign;
            }
            return x == 1 ? '1' + page : 0;
        }

        private int lineUnit(Story story, int line, int x) {
            int from = story.lineFrom[line];
            int to = story.lineTo[line];
            int hyphen = story.lineEnd[line] == AT_CUT ? HYPHEN_WIDTH : 0;
            int wordsEnd = unitsOf(from, to);
            int gaps = gapsOf(from, to);
            int spare = 0;
            if (story.lineEnd[line] != LAST && gaps > 0) {
                spare = measure - wordsEnd - hyphen;
                wordsEnd += spare;
            }
            if (x >= wordsEnd) {
                return x < wordsEnd + hyphen ? HYPHEN : 0;
            }
            return rowUnit(from, to, spare, gaps, x);
        }

        private int rowUnit(int from, int to, int spare, int gaps, int x) {
            int share = gaps > 0 ? spare / gaps : 0;
            int larger = spare - share * gaps;
            int units = 0;
            for (int i = from; i < to; i++) {
                boolean isSpace = text[i] == ' ';
                units += widthOf(text[i]);
                if (isSpace) {
                    units += share + (larger > 0 ? 1 : 0);
                    larger--;
                }
                if (x < units) {
                    return isSpace ? 0 : text[i];
                }
            }
            return 0;
        }

        private int unitsOf(int from, int to) {
            int units = 0;
            for (int i = from; i < to; i++) {
                units += widthOf(text[i]);
            }
            return units;
        }

        private int gapsOf(int from, int to) {
            int gaps = 0;
            for (int i = from; i < to; i++) {
                gaps += text[i] == ' ' ? 1 : 0;
            }
            return gaps;
        }

        private int widthOf(char c) {
            return isLetter(c) ? widths[c - 'a'] : SPACE_WIDTH;
        }
    }
}
