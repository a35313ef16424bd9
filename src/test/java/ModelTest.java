import java.util.ArrayList;
import java.util.Arrays;
import java.util.Collections;
import java.util.Comparator;
import java.util.HashMap;
import java.util.List;
import java.util.Map;
import java.util.Random;
import java.util.TreeMap;
import java.util.function.Consumer;

/**
 * Compares EditionGrid, call by call, with a slow model that follows the document word for word:
 * it writes out all ways, places and rows where the program counts in arrays and bits.
 */
public final class ModelTest {
    private static final int RUNS = 600;
    private static int wrong = 0;

    public static void main(String[] args) {
        int[] seen = new int[4];
        for (int run = 0; run < RUNS; run++) {
            new Run(run).go(seen);
        }
        // The comparison is worth little when the runs do not come to jumps and to each reason.
        for (int i = 0; i < seen.length; i++) {
            if (seen[i] < 50) {
                wrong++;
                System.out.println("too few stories of kind " + i + ": " + seen[i]);
            }
        }
        System.out.println(wrong == 0 ? "all answers are as the model's" : wrong + " answers are not as the model's");
        if (wrong != 0) {
            System.exit(1);
        }
    }

    /** An object that is made anew, with all changes of its state, before its 512th call. */
    private static final class Subject {
        private final int c;
        private final int r;
        private final int w;
        private final List<Consumer<EditionGrid>> history = new ArrayList<>();
        private EditionGrid grid;
        private int calls;

        Subject(int c, int r, int w) {
            this.c = c;
            this.r = r;
            this.w = w;
            grid = new EditionGrid(c, r, w);
        }

        EditionGrid forCall() {
            if (++calls > 512) {
                grid = new EditionGrid(c, r, w);
                for (Consumer<EditionGrid> call : history) {
                    call.accept(grid);
                }
                calls = history.size() + 1;
            }
            return grid;
        }
    }

    /** A run of calls on one object, from a fixed seed. */
    private static final class Run {
        private final int number;
        private final Random random;
        private final Subject subject;
        private final Model model;

        Run(int number) {
            this.number = number;
            random = new Random(77_000 + number);
            int c = random.nextInt(7) - 1;
            int r = random.nextInt(3) == 0 ? random.nextInt(19) : 3 + random.nextInt(5);
            int w = random.nextInt(3) == 0 ? random.nextInt(75) : 14 + random.nextInt(20);
            subject = new Subject(c, r, w);
            model = new Model(c, r, w);
        }

        private void due(String call, int got, int want) {
            if (got != want && ++wrong <= 40) {
                System.out.println("run " + number + ": " + call + " answered " + got + ", due is " + want);
            }
        }

        void go(int[] seen) {
            someMetrics(random.nextInt(12));
            somePatterns(random.nextInt(26));
            for (int round = 0; round < 2; round++) {
                someText();
                ask(seen);
                someMetrics(random.nextInt(3));
                somePatterns(random.nextInt(3));
                if (random.nextBoolean()) {
                    feed(randomText(1 + random.nextInt(9)));
                }
                ask(new int[4]);
                plan();
                ask(seen);
                someCuts();
                clear();
            }
        }

        private void someMetrics(int count) {
            for (int i = 0; i < count; i++) {
                char letter = (char) (95 + random.nextInt(30));
                int width = random.nextInt(12) - 1;
                if (random.nextInt(3) > 0) {
                    width = Math.max(1, Math.min(width, 4));
                }
                int given = width;
                boolean got = subject.forCall().metric(letter, width);
                subject.history.add(g -> g.metric(letter, given));
                due("metric(" + letter + ", " + width + ")", got ? 1 : 0, model.metric(letter, width) ? 1 : 0);
            }
        }

        private void somePatterns(int count) {
            for (int i = 0; i < count; i++) {
                int n = random.nextInt(12) == 0 ? random.nextInt(10) - 1 : 1 + random.nextInt(3);
                StringBuilder signs = new StringBuilder();
                StringBuilder values = new StringBuilder();
                for (int j = 0; j < n; j++) {
                    boolean edge = j == 0 || j == n - 1;
                    signs.append(random.nextInt(edge ? 8 : 40) == 0 ? '.' : letter());
                }
                for (int j = 0; j <= n; j++) {
                    values.append((char) (random.nextInt(150) == 0 ? 10 : random.nextInt(3) == 0 ? random.nextInt(10) : 0));
                }
                long s = pack(signs.toString()) | (n < 6 && random.nextBoolean() && n > 0 ? 99L << (8 * n) : 0);
                long v = pack(values.toString());
                int got = subject.forCall().pattern(s, n, v);
                subject.history.add(g -> g.pattern(s, n, v));
                due("pattern(" + signs + ", " + n + ")", got, model.pattern(signs.toString(), n, values.toString()));
            }
        }

        private void someCuts() {
            for (int i = 0; i < 6; i++) {
                int n = random.nextInt(10);
                String word = word(n);
                int got = subject.forCall().cuts(pack(word), n);
                due("cuts(" + word + ")", got, n < 1 || n > 8 ? -1 : model.cutSum(word));
            }
        }

        private char letter() {
            return (char) ('a' + (random.nextInt(6) == 0 ? random.nextInt(26) : random.nextInt(4)));
        }

        private String word(int n) {
            StringBuilder word = new StringBuilder();
            for (int i = 0; i < n; i++) {
                word.append(letter());
            }
            return word.toString();
        }

        private String words(int most, int longest) {
            StringBuilder words = new StringBuilder(word(1 + random.nextInt(longest)));
            int count = random.nextInt(most);
            for (int i = 0; i < count; i++) {
                words.append(' ').append(word(1 + random.nextInt(longest)));
            }
            return words.toString();
        }

        private String story() {
            StringBuilder story = new StringBuilder("#");
            story.append((char) ('0' + random.nextInt(10)));
            story.append(words(random.nextInt(30) == 0 ? 5 : 4, 8)).append('\n');
            int paragraphs = random.nextInt(40) == 0 ? 5 : random.nextInt(30) == 0 ? 0 : 1 + random.nextInt(4);
            int figureAt = random.nextInt(2) == 0 ? random.nextInt(paragraphs + 1) : -1;
            int longest = random.nextInt(40) == 0 ? 13 : 2 + random.nextInt(random.nextInt(4) == 0 ? 10 : 4);
            for (int p = 0; p <= paragraphs; p++) {
                if (p == figureAt) {
                    story.append('=').append((char) ('1' + random.nextInt(random.nextInt(6) == 0 ? 9 : 2)));
                    story.append((char) ('1' + random.nextInt(random.nextInt(6) == 0 ? 9 : 3))).append('\n');
                }
                if (p < paragraphs) {
                    story.append(words(random.nextInt(60) == 0 ? 17 : 16, longest)).append('\n');
                }
            }
            return story.toString();
        }

        private String randomText(int length) {
            String signs = "#0159=abz \n\n~";
            StringBuilder text = new StringBuilder();
            for (int i = 0; i < length; i++) {
                text.append(signs.charAt(random.nextInt(signs.length())));
            }
            return text.toString();
        }

        private void someText() {
            StringBuilder text = new StringBuilder();
            int stories = 1 + random.nextInt(4);
            for (int i = 0; i < stories; i++) {
                String story = story();
                if (text.length() + story.length() <= 480) {
                    text.append(story);
                }
            }
            if (random.nextInt(12) == 0 && text.length() > 0) {
                int at = random.nextInt(text.length());
                text.replace(at, at + random.nextInt(2), randomText(random.nextInt(3)));
            }
            feed(text.toString());
            read();
            plan();
        }

        private void feed(String text) {
            for (int i = 0; i < text.length(); ) {
                int n = Math.min(text.length() - i, random.nextInt(3) == 0 ? 1 + random.nextInt(8) : 8);
                String piece = text.substring(i, i + n);
                long packed = pack(piece);
                int got = subject.forCall().feed(packed, n);
                subject.history.add(g -> g.feed(packed, n));
                due("feed(" + piece + ")", got, model.feed(piece));
                i += n;
            }
        }

        private void read() {
            int got = subject.forCall().read();
            subject.history.add(g -> g.read());
            due("read()", got, model.read());
            due("fault()", subject.forCall().fault(), model.fault);
            due("held(0)", subject.forCall().held(0), -1);
            due("cell(0, 0, 0)", subject.forCall().cell(0, 0, 0), 0);
        }

        private void plan() {
            int got = subject.forCall().plan();
            subject.history.add(g -> g.plan());
            due("plan()", got, model.plan());
        }

        private void clear() {
            int got = subject.forCall().clear();
            subject.history.add(g -> g.clear());
            due("clear()", got, model.clear());
        }

        private void ask(int[] seen) {
            for (int s = -1; s < 5; s++) {
                due("held(" + s + ")", subject.forCall().held(s), model.held(s));
                due("lines(" + s + ")", subject.forCall().lines(s), model.lines(s));
                for (int p = -1; p < 5; p++) {
                    due("cost(" + s + ", " + p + ")", subject.forCall().cost(s, p), model.cost(s, p));
                }
                for (int part = -1; part < 3; part++) {
                    for (int what = -1; what < 12; what++) {
                        String call = "part(" + s + ", " + part + ", " + what + ")";
                        due(call, subject.forCall().part(s, part, what), model.part(s, part, what));
                    }
                }
                if (model.held(s) > 0) {
                    seen[model.held(s)]++;
                } else if (model.part(s, 1, 0) >= 0) {
                    seen[0]++;
                }
            }
            for (int page = -1; page < 4; page++) {
                for (int c = -1; c <= model.c; c++) {
                    for (int r = -1; r <= model.r; r++) {
                        askCell(page, c, r);
                    }
                }
            }
        }

        private void askCell(int page, int c, int r) {
            String place = "(" + page + ", " + c + ", " + r;
            due("cell" + place + ")", subject.forCall().cell(page, c, r), model.cell(page, c, r));
            for (int x = -1; x <= model.w; x++) {
                int got = subject.forCall().ink(page, c, r, x);
                due("ink" + place + ", " + x + ")", got, model.ink(page, c, r, x));
            }
        }
    }

    static long pack(String bytes) {
        long packed = 0;
        for (int i = 0; i < bytes.length(); i++) {
            packed = packed << 8 | bytes.charAt(i);
        }
        return packed;
    }

    private record Place(int page, int x, int y, int k, int height) {
    }

    /** One line: its text with its hyphen, and whether it ends its paragraph. */
    private record Line(String text, boolean first, boolean last) {
    }

    private record Way(int cost, List<String> lines) {
    }

    private static final class ModelPart {
        private Place place;
        private int firstLine;
        private List<Integer> taken;

        int lineCount() {
            return taken.stream().mapToInt(Integer::intValue).sum();
        }
    }

    private static final class ModelStory {
        private int urgency;
        private String headline;
        private final List<String> paragraphs = new ArrayList<>();
        private int figureColumns;
        private int figureRows;
        private int reason;
        private final List<Integer> costs = new ArrayList<>();
        private final List<Line> lines = new ArrayList<>();
        private final List<ModelPart> parts = new ArrayList<>();

        boolean isBad(int before) {
            if (before <= 0 || before >= lines.size()) {
                return false;
            }
            Line one = lines.get(before - 1);
            Line other = lines.get(before);
            return one.first && !one.last || other.last && !other.first;
        }
    }

    /** The document's words, done slowly. */
    private static final class Model {
        private final int c;
        private final int r;
        private final int w;
        private final int[] widths = new int[128];
        private int[] plannedWidths;
        private final Map<String, String> patterns = new TreeMap<>();
        private String text = "";
        private List<ModelStory> stories = new ArrayList<>();
        private boolean planned;
        private int fault = -1;
        private final int[][][] codes;
        private final int[][][][] inks;

        Model(int columns, int rows, int width) {
            c = columns < 1 ? 1 : columns > 4 ? 4 : columns;
            r = rows < 4 ? 4 : rows > 16 ? 16 : rows;
            w = width < 16 ? 16 : width > 60 ? 60 : width;
            codes = new int[3][c][r];
            inks = new int[3][c][r][w];
            Arrays.fill(widths, 4);
            widths[' '] = 3;
            widths['-'] = 2;
        }

        boolean metric(char letter, int width) {
            if (!String.valueOf(letter).matches("[a-z]") || width < 1 || width > 9) {
                return false;
            }
            widths[letter] = width;
            return true;
        }

        int pattern(String signs, int n, String values) {
            if (n < 1 || n > 6 || !signs.matches("\\.?[a-z]+\\.?") || values.indexOf(10) >= 0) {
                return -1;
            }
            if (!patterns.containsKey(signs) && patterns.size() == 20) {
                return -2;
            }
            patterns.put(signs, values);
            return patterns.size();
        }

        int cutSum(String word) {
            int sum = 0;
            for (int k = 2; k <= word.length() - 2; k++) {
                sum += isCut(word, k) ? 1 << k : 0;
            }
            return sum;
        }

        private boolean isCut(String word, int k) {
            String dotted = "." + word + ".";
            int greatest = 0;
            for (Map.Entry<String, String> pattern : patterns.entrySet()) {
                String signs = pattern.getKey();
                for (int i = 0; i + signs.length() <= dotted.length(); i++) {
                    int value = k + 1 - i;
                    if (dotted.startsWith(signs, i) && value >= 0 && value <= signs.length()) {
                        greatest = Math.max(greatest, pattern.getValue().charAt(value));
                    }
                }
            }
            return k >= 2 && word.length() - k >= 2 && greatest % 2 == 1;
        }

        int feed(String piece) {
            if (text.length() + piece.length() > 480) {
                return -2;
            }
            text += piece;
            return text.length();
        }

        int clear() {
            int had = text.length();
            text = "";
            return had;
        }

        /** The fault is behind the longest beginning that some right text has. */
        int read() {
            wipe();
            planned = false;
            stories = new ArrayList<>();
            fault = -1;
            String word = "[a-z]{1,12}";
            String whole = "(#[0-9]" + word + "( " + word + "){0,3}\n((" + word + "( " + word + "){0,15}|=[1-9][1-9])\n)+){1,4}";
            if (text.matches(whole) && countsAreRight(text)) {
                for (String story : text.substring(1).split("#")) {
                    stories.add(storyOf(story));
                }
                return stories.size();
            }
            int right = 0;
            while (right < text.length() && isBeginning(text.substring(0, right + 1), whole)) {
                right++;
            }
            fault = right;
            return -1;
        }

        private static boolean countsAreRight(String text) {
            for (String story : text.substring(1).split("#")) {
                int figures = 0;
                int paragraphs = 0;
                String[] parts = story.split("\n");
                for (int i = 1; i < parts.length; i++) {
                    figures += parts[i].startsWith("=") ? 1 : 0;
                    paragraphs += parts[i].startsWith("=") ? 0 : 1;
                }
                if (figures > 1 || paragraphs > 4) {
                    return false;
                }
            }
            return true;
        }

        /**
         * Whether something can be put behind it so that it is a right text; a space may stand behind
         * each word, as a word too many is so at its first letter.
         */
        private static boolean isBeginning(String begin, String whole) {
            if (begin.matches("(?s).*[a-z] ")) {
                return true;
            }
            String[] ends = {"", "\n", "a\n", "1\n", "11\n", "a\na\n", "1a\na\n", "\na\n", "\n=11\n"};
            for (String end : ends) {
                String tried = begin + end;
                if (tried.matches(whole) && countsAreRight(tried)) {
                    return true;
                }
            }
            return false;
        }

        private static ModelStory storyOf(String source) {
            ModelStory story = new ModelStory();
            String[] parts = source.split("\n");
            story.urgency = source.charAt(0) - '0';
            story.headline = parts[0].substring(1);
            for (int i = 1; i < parts.length; i++) {
                if (parts[i].startsWith("=")) {
                    story.figureColumns = parts[i].charAt(1) - '0';
                    story.figureRows = parts[i].charAt(2) - '0';
                } else {
                    story.paragraphs.add(parts[i]);
                }
            }
            return story;
        }

        private void wipe() {
            for (int page = 0; page < 3; page++) {
                for (int x = 0; x < c; x++) {
                    Arrays.fill(codes[page][x], 0);
                    for (int y = 0; y < r; y++) {
                        Arrays.fill(inks[page][x][y], 0);
                    }
                }
            }
        }

        int plan() {
            if (stories.isEmpty()) {
                return -1;
            }
            wipe();
            planned = true;
            plannedWidths = widths.clone();
            List<ModelStory> order = new ArrayList<>(stories);
            order.sort(Comparator.comparingInt((ModelStory s) -> -s.urgency));
            int placed = 0;
            for (ModelStory story : order) {
                breakStory(story);
                place(story);
                placed += story.reason == 0 ? 1 : 0;
            }
            return placed;
        }

        private int widthOf(String line) {
            return line.chars().map(ch -> plannedWidths[ch]).sum();
        }

        private void breakStory(ModelStory story) {
            story.reason = 0;
            story.costs.clear();
            story.lines.clear();
            story.parts.clear();
            for (String paragraph : story.paragraphs) {
                Way way = bestWay(paragraph, new HashMap<>());
                story.costs.add(way == null ? -1 : way.cost);
                if (way == null) {
                    story.reason = 1;
                    continue;
                }
                for (int i = 0; i < way.lines.size(); i++) {
                    story.lines.add(new Line(way.lines.get(i), i == 0, i == way.lines.size() - 1));
                }
            }
        }

        /** The rest after a cut has the whole word before it, as cuts are those of the whole word. */
        private Way bestWay(String paragraph, Map<Integer, Way> known) {
            return bestFrom(paragraph, 0, known);
        }

        private Way bestFrom(String paragraph, int from, Map<Integer, Way> known) {
            if (known.containsKey(from)) {
                return known.get(from);
            }
            Way best = null;
            for (int to = from + 1; to <= paragraph.length(); to++) {
                Way way = wayWith(paragraph, from, to, known);
                if (way != null && (best == null || isBetter(way, best))) {
                    best = way;
                }
            }
            known.put(from, best);
            return best;
        }

        private Way wayWith(String paragraph, int from, int to, Map<Integer, Way> known) {
            String line = paragraph.substring(from, to);
            if (to == paragraph.length()) {
                return widthOf(line) <= w ? new Way(0, List.of(line)) : null;
            }
            boolean behindWord = paragraph.charAt(to) == ' ';
            if (!behindWord) {
                int wordFrom = paragraph.lastIndexOf(' ', to) + 1;
                int space = paragraph.indexOf(' ', to);
                String word = paragraph.substring(wordFrom, space < 0 ? paragraph.length() : space);
                if (!isCut(word, to - wordFrom)) {
                    return null;
                }
                line += "-";
            }
            int left = w - widthOf(line);
            if (left < 0) {
                return null;
            }
            Way rest = bestFrom(paragraph, behindWord ? to + 1 : to, known);
            if (rest == null) {
                return null;
            }
            List<String> lines = new ArrayList<>(List.of(line));
            lines.addAll(rest.lines);
            return new Way(rest.cost + left * left + (behindWord ? 0 : 100), lines);
        }

        private static boolean isBetter(Way one, Way other) {
            if (one.cost != other.cost) {
                return one.cost < other.cost;
            }
            for (int i = 0; i < one.lines.size(); i++) {
                int letters = one.lines.get(i).replaceAll("[^a-z]", "").length();
                int others = other.lines.get(i).replaceAll("[^a-z]", "").length();
                if (letters != others) {
                    return letters > others;
                }
            }
            return false;
        }

        private void place(ModelStory story) {
            if (story.reason == 1) {
                return;
            }
            int n = story.lines.size();
            if (n == 0 || n > 40) {
                story.reason = 2;
                return;
            }
            ModelPart whole = whole(story, 0, 0);
            if (whole != null) {
                story.parts.add(whole);
            } else if (!jump(story)) {
                story.reason = 3;
            }
            for (int i = 0; i < story.parts.size(); i++) {
                draw(story, i);
            }
        }

        private static List<Integer> rooms(ModelStory story, boolean withFigure, int k, int h, int lessInLast) {
            List<Integer> rooms = new ArrayList<>();
            for (int i = 0; i < k; i++) {
                int room = h;
                if (withFigure && i < story.figureColumns) {
                    room -= story.figureRows;
                }
                rooms.add(i == k - 1 ? room - lessInLast : room);
            }
            return rooms.stream().anyMatch(room -> room < 0) ? null : rooms;
        }

        private static List<Integer> fill(ModelStory story, int from, int to, List<Integer> rooms) {
            if (rooms == null) {
                return null;
            }
            if (rooms.isEmpty()) {
                return from == to ? new ArrayList<>() : null;
            }
            for (int take = Math.min(rooms.get(0), to - from); take >= 0; take--) {
                boolean isBreak = from + take < to && take > 0;
                if (isBreak && story.isBad(from + take)) {
                    continue;
                }
                List<Integer> rest = fill(story, from + take, to, rooms.subList(1, rooms.size()));
                if (rest != null) {
                    rest.add(0, take);
                    return rest;
                }
            }
            return null;
        }

        private boolean isFree(Place place) {
            if (place.x + place.k > c || place.y + place.height > r) {
                return false;
            }
            for (int x = place.x; x < place.x + place.k; x++) {
                for (int y = place.y; y < place.y + place.height; y++) {
                    if (codes[place.page][x][y] != 0) {
                        return false;
                    }
                }
            }
            return true;
        }

        private static Comparator<Place> placeOrder() {
            return Comparator.comparingInt(Place::page).thenComparing(Comparator.comparingInt(Place::k).reversed())
                    .thenComparingInt(Place::y).thenComparingInt(Place::x);
        }

        private ModelPart whole(ModelStory story, int from, int firstPage) {
            boolean withFigure = from == 0;
            List<Place> places = new ArrayList<>();
            List<List<Integer>> takenBy = new ArrayList<>(Collections.nCopies(c + 1, null));
            for (int k = withFigure ? Math.max(1, story.figureColumns) : 1; k <= c; k++) {
                for (int h = 1; h < r && takenBy.get(k) == null; h++) {
                    takenBy.set(k, fill(story, from, story.lines.size(), rooms(story, withFigure, k, h, 0)));
                    for (int i = 0; takenBy.get(k) != null && i < (3 - firstPage) * c * r; i++) {
                        places.add(new Place(firstPage + i / (c * r), i % (c * r) / r, i % r, k, h + 1));
                    }
                }
            }
            places.sort(placeOrder());
            for (Place place : places) {
                if (isFree(place)) {
                    ModelPart part = new ModelPart();
                    part.place = place;
                    part.firstLine = from;
                    part.taken = takenBy.get(place.k);
                    return part;
                }
            }
            return null;
        }

        private boolean jump(ModelStory story) {
            List<Place> places = new ArrayList<>();
            for (int i = 0; i < 2 * c * r * c; i++) {
                int page = i / (c * r * c);
                int x = i / (r * c) % c;
                int y = i / c % r;
                int k = i % c + 1;
                int height = r;
                while (height >= 2 && !isFree(new Place(page, x, y, k, height))) {
                    height--;
                }
                if (height >= 2 && k >= story.figureColumns) {
                    places.add(new Place(page, x, y, k, height));
                }
            }
            places.sort(placeOrder());
            for (Place place : places) {
                if (jumpFrom(story, place)) {
                    return true;
                }
            }
            return false;
        }

        private boolean jumpFrom(ModelStory story, Place place) {
            List<Integer> rooms = rooms(story, true, place.k, place.height - 1, 1);
            for (int m = story.lines.size() - 2; m >= 2; m--) {
                List<Integer> taken = story.isBad(m) ? null : fill(story, 0, m, rooms);
                if (taken == null) {
                    continue;
                }
                ModelPart second = whole(story, m, place.page + 1);
                if (second == null) {
                    return false;
                }
                ModelPart first = new ModelPart();
                first.place = place;
                first.taken = taken;
                story.parts.add(first);
                story.parts.add(second);
                return true;
            }
            return false;
        }

        private void draw(ModelStory story, int number) {
            ModelPart part = story.parts.get(number);
            Place p = part.place;
            int base = 100 * (stories.indexOf(story) + 1);
            for (int x = p.x; x < p.x + p.k; x++) {
                Arrays.fill(codes[p.page][x], p.y, p.y + p.height, 90);
            }
            int line = part.firstLine;
            int[] headline = painted(story.headline, false, c * w * 9);
            for (int i = 0; i < p.k; i++) {
                int y = p.y + 1;
                if (number == 0) {
                    show(p.page, p.x + i, p.y, base + 80, Arrays.copyOfRange(headline, i * w, i * w + w));
                }
                for (int f = 0; number == 0 && i < story.figureColumns && f < story.figureRows; f++) {
                    int[] figure = new int[w];
                    Arrays.fill(figure, '#');
                    show(p.page, p.x + i, y++, base + 81, figure);
                }
                for (int taken = 0; taken < part.taken.get(i); taken++) {
                    Line shown = story.lines.get(line);
                    show(p.page, p.x + i, y++, base + line++, painted(shown.text, !shown.last, w));
                }
            }
            if (story.parts.size() == 2 && number == 0) {
                show(p.page, p.x + p.k - 1, p.y + p.height - 1, base + 82, sign('>', story.parts.get(1)));
            }
            if (number == 1) {
                show(p.page, p.x, p.y, base + 83, sign('<', story.parts.get(0)));
            }
        }

        private int[] sign(char sign, ModelPart other) {
            int[] row = new int[w];
            row[0] = sign;
            row[1] = '1' + other.place.page;
            return row;
        }

        private void show(int page, int x, int y, int code, int[] row) {
            codes[page][x][y] = code;
            System.arraycopy(row, 0, inks[page][x][y], 0, w);
        }

        /** A row of units; in a spread one the spaces get a unit each in turn until it is full. */
        private int[] painted(String line, boolean spread, int units) {
            List<Integer> wide = new ArrayList<>();
            for (char ch : line.toCharArray()) {
                wide.add(plannedWidths[ch]);
            }
            int left = w - widthOf(line);
            for (int i = 0; spread && line.indexOf(' ') >= 0 && left > 0; i = (i + 1) % line.length()) {
                if (line.charAt(i) == ' ') {
                    wide.set(i, wide.get(i) + 1);
                    left--;
                }
            }
            int[] row = new int[units];
            int at = 0;
            for (int i = 0; i < line.length(); i++) {
                for (int u = 0; u < wide.get(i); u++) {
                    row[at++] = line.charAt(i) == ' ' ? 0 : line.charAt(i);
                }
            }
            return row;
        }

        int held(int s) {
            return planned && s >= 0 && s < stories.size() ? stories.get(s).reason : -1;
        }

        int lines(int s) {
            return held(s) == -1 ? -1 : held(s) == 1 ? 0 : stories.get(s).lines.size();
        }

        int cost(int s, int p) {
            return held(s) == -1 || p < 0 || p >= stories.get(s).costs.size() ? -1 : stories.get(s).costs.get(p);
        }

        int part(int s, int number, int what) {
            if (held(s) != 0 || number < 0 || number >= stories.get(s).parts.size() || what < 0 || what > 10) {
                return -1;
            }
            ModelPart part = stories.get(s).parts.get(number);
            Place p = part.place;
            int[] told = {p.page, p.x, p.y, p.k, p.height, part.firstLine, part.lineCount()};
            if (what < 7) {
                return told[what];
            }
            return what - 7 < p.k ? part.taken.get(what - 7) : 0;
        }

        private boolean isCell(int page, int x, int y) {
            return page >= 0 && page < 3 && x >= 0 && x < c && y >= 0 && y < r;
        }

        int cell(int page, int x, int y) {
            return isCell(page, x, y) ? codes[page][x][y] : -1;
        }

        int ink(int page, int x, int y, int unit) {
            return isCell(page, x, y) && unit >= 0 && unit < w ? inks[page][x][y][unit] : -1;
        }
    }
}
