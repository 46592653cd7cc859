/**
 * Ballot papers in versions: contests whose names are turned from version to version, where each
 * name lies on the paper, how often it is first, and ballots as texts that are read and counted.
 *
 * <p>Everything that is needed is made in the constructor, so no later call makes an object.
 */
public final class BallotPapers {
    public static final int INVALID_ARGUMENT = -1;
    public static final int NOT_POSSIBLE = -2;
    public static final int LIMIT_REACHED = -3;
    public static final int NOT_FOUND = -4;

    private static final int NONE = -1;

    private static final int MOST_CONTESTS = 6;
    private static final int MOST_NAMES = 8;
    private static final int MOST_SEATS = 3;
    private static final int MOST_LENGTH = 20;
    private static final int MOST_PAPERS = 9999;
    private static final int MOST_BALLOTS = 9999;
    private static final int MOST_VERSIONS = 24;
    private static final int MOST_STATES = 4;
    private static final int MOST_SIGNS = 40;
    // A text of 40 signs has at most 2 for the version and ":", then 3 for each mark but the last.
    private static final int MOST_MARKS = 13;

    private static final int WAY_ROUND = 1;
    private static final int WAY_BACK = 2;

    private static final int COLUMNS = 0;
    private static final int LINES = 1;
    private static final int WIDTH = 2;
    private static final int LANGUAGES = 3;
    private static final int FOLD = 4;
    private static final int VERSIONS = 5;
    private static final int SETTINGS = 6;
    private static final int FIRST_SETTING_OF_COUNT = 10;

    private static final int LEAST_WIDTH = 8;
    private static final int MOST_WIDTH = 40;
    // A mark and what stands beside it take this much of the width of a name's lines.
    private static final int WIDTH_OF_MARK = 3;

    private static final int[] LEAST = {1, 16, LEAST_WIDTH, 1, 4, 1};
    private static final int[] MOST = {4, 60, MOST_WIDTH, 3, 30, MOST_VERSIONS};
    private static final int[] AT_FIRST = {2, 24, 20, 1, 0, 1};

    private static final int NO_FAULT = 0;
    private static final int WRONG_SIGN = 1;
    private static final int NO_VERSION = 2;
    private static final int NO_NAME = 3;
    private static final int MARK_AGAIN = 4;

    private final Poll poll;
    private final History history;
    private final Sheet sheet;
    private final Firsts firsts;
    private final Text text;
    private final Ballot ballot;

    public BallotPapers() {
        poll = new Poll();
        history = new History();
        sheet = new Sheet();
        firsts = new Firsts();
        text = new Text();
        ballot = new Ballot();
    }

    // ---- contests, names, papers

    public int contest(int title, int seats) {
        if (!within(title, 1, MOST_LENGTH) || !within(seats, 1, MOST_SEATS)) {
            return INVALID_ARGUMENT;
        }
        if (poll.contests() >= MOST_CONTESTS) {
            return LIMIT_REACHED;
        }
        history.keep(poll);
        return poll.addContest(title, seats);
    }

    public int name(int contest, int length) {
        if (!poll.hasContest(contest) || !within(length, 1, MOST_LENGTH)) {
            return INVALID_ARGUMENT;
        }
        if (poll.ballots() > 0) {
            return NOT_POSSIBLE;
        }
        if (poll.namesIn(contest) >= MOST_NAMES) {
            return LIMIT_REACHED;
        }
        history.keep(poll);
        return poll.addName(contest, length);
    }

    public int way(int contest, int way) {
        if (!poll.hasContest(contest) || !within(way, 0, WAY_BACK)) {
            return INVALID_ARGUMENT;
        }
        if (poll.ballots() > 0) {
            return NOT_POSSIBLE;
        }
        history.keep(poll);
        return poll.turnBy(contest, way);
    }

    public int papers(int version, int many) {
        if (!poll.hasVersion(version) || !within(many, 0, MOST_PAPERS)) {
            return INVALID_ARGUMENT;
        }
        history.keep(poll);
        return poll.printPapers(version, many);
    }

    public int set(int what, int value) {
        if (!allowed(what, value)) {
            return INVALID_ARGUMENT;
        }
        history.keep(poll);
        return poll.change(what, value);
    }

    public int clear() {
        history.keep(poll);
        return poll.forgetVotes();
    }

    // ---- what there is

    public int contestOf(int contest, int what) {
        if (!poll.hasContest(contest)) {
            return INVALID_ARGUMENT;
        }
        switch (what) {
            case 0:
                return poll.titleOf(contest);
            case 1:
                return poll.seatsOf(contest);
            case 2:
                return poll.wayOf(contest);
            case 3:
                return poll.namesIn(contest);
            case 4:
                return poll.votesIn(contest);
            case 5:
                return poll.spoiltIn(contest);
            case 6:
                return poll.blankIn(contest);
            default:
                return INVALID_ARGUMENT;
        }
    }

    public int nameOf(int contest, int name, int what) {
        if (!poll.hasName(contest, name)) {
            return INVALID_ARGUMENT;
        }
        switch (what) {
            case 0:
                return poll.lengthOf(contest, name);
            case 1:
                return poll.votesOf(contest, name);
            case 2:
                firsts.onPapers(poll, contest);
                return firsts.timesOf(name);
            case 3:
                return poll.hasSeat(contest, name) ? 1 : 0;
            default:
                return INVALID_ARGUMENT;
        }
    }

    public int count(int what) {
        switch (what) {
            case 0:
                return poll.contests();
            case 1:
                return poll.allNames();
            case 2:
                return poll.allPapers();
            case 3:
                return poll.ballots();
            case 4:
                return history.kept();
            case 5:
                return text.length();
            default:
                return settingOfCount(what);
        }
    }

    public int papersOf(int version) {
        return poll.hasVersion(version) ? poll.papersIn(version) : INVALID_ARGUMENT;
    }

    // ---- orders, places

    public int stands(int version, int contest, int place) {
        if (!poll.hasVersion(version) || !poll.hasContest(contest) || place < 0) {
            return INVALID_ARGUMENT;
        }
        int name = poll.nameAt(version, contest, place);
        return name == NONE ? NOT_FOUND : name;
    }

    public int lies(int version, int contest, int name, int what) {
        if (!poll.hasVersion(version) || !poll.hasName(contest, name)) {
            return INVALID_ARGUMENT;
        }
        sheet.lay(poll, version, poll.setting(WIDTH));
        switch (what) {
            case 0:
                return sheet.pageOf(contest, name);
            case 1:
                return sheet.columnOnPage(contest, name);
            case 2:
                return sheet.lineOf(contest, name);
            case 3:
                return poll.placeOf(version, contest, name);
            case 4:
                return sheet.linesOf(contest, name);
            default:
                return INVALID_ARGUMENT;
        }
    }

    public int markAt(int version, int page, int column, int line, int what) {
        if (!poll.hasVersion(version) || page < 0 || !within(what, 0, 1)) {
            return INVALID_ARGUMENT;
        }
        if (!within(column, 0, poll.setting(COLUMNS) - 1)
                || !within(line, 0, poll.setting(LINES) - 1)) {
            return INVALID_ARGUMENT;
        }
        sheet.lay(poll, version, poll.setting(WIDTH));
        for (int contest = 0; contest < poll.contests(); contest++) {
            int name = sheet.nameWithMarkAt(contest, page, column, line);
            if (name != NONE) {
                return what == 0 ? contest : name;
            }
        }
        return NOT_FOUND;
    }

    public int paper(int version, int what) {
        if (!poll.hasVersion(version)) {
            return INVALID_ARGUMENT;
        }
        sheet.lay(poll, version, poll.setting(WIDTH));
        switch (what) {
            case 0:
                return sheet.pages();
            case 1:
                return sheet.columns();
            case 2:
                return sheet.taken();
            case 3:
                return sheet.later();
            case 4:
                return sheet.begunByNames();
            default:
                return INVALID_ARGUMENT;
        }
    }

    // ---- what would be

    public int spread(int contest) {
        if (!poll.hasContest(contest)) {
            return INVALID_ARGUMENT;
        }
        if (poll.namesIn(contest) == 0) {
            return NOT_FOUND;
        }
        firsts.onPapers(poll, contest);
        return firsts.difference(poll.namesIn(contest));
    }

    public int evenVersions() {
        for (int versions = 1; versions <= MOST_VERSIONS; versions++) {
            if (areEven(versions)) {
                return versions;
            }
        }
        return NOT_FOUND;
    }

    public int bestWidth(int what) {
        if (!within(what, 0, 1)) {
            return INVALID_ARGUMENT;
        }
        int best = LEAST_WIDTH;
        int fewest = pagesByWidth(LEAST_WIDTH);
        for (int width = LEAST_WIDTH + 1; width <= MOST_WIDTH; width++) {
            int pages = pagesByWidth(width);
            if (pages < fewest) {
                best = width;
                fewest = pages;
            }
        }
        return what == 0 ? best : fewest;
    }

    public int undo() {
        if (history.kept() == 0) {
            return NOT_POSSIBLE;
        }
        history.restore(poll);
        return history.kept();
    }

    // ---- texts

    public int type(int character) {
        if (!within(character, 32, 126)) {
            return INVALID_ARGUMENT;
        }
        if (text.length() >= MOST_SIGNS) {
            return LIMIT_REACHED;
        }
        return text.append(character);
    }

    public int clearText() {
        return text.empty();
    }

    public int fault(int what) {
        if (!within(what, 0, 1)) {
            return INVALID_ARGUMENT;
        }
        ballot.read(text, poll);
        if (ballot.reason() == NO_FAULT) {
            return NOT_FOUND;
        }
        return what == 0 ? ballot.faultAt() : ballot.reason();
    }

    public int cast() {
        ballot.read(text, poll);
        if (ballot.reason() != NO_FAULT) {
            return NOT_POSSIBLE;
        }
        if (poll.ballots() >= MOST_BALLOTS) {
            return LIMIT_REACHED;
        }
        history.keep(poll);
        return ballot.countIn(poll);
    }

    private int settingOfCount(int what) {
        // Compared before it is reduced: a very small number less 10 would wrap around.
        if (!within(what, FIRST_SETTING_OF_COUNT, FIRST_SETTING_OF_COUNT + SETTINGS - 1)) {
            return INVALID_ARGUMENT;
        }
        return poll.setting(what - FIRST_SETTING_OF_COUNT);
    }

    private boolean areEven(int versions) {
        for (int contest = 0; contest < poll.contests(); contest++) {
            firsts.inVersions(poll, contest, versions);
            if (firsts.difference(poll.namesIn(contest)) != 0) {
                return false;
            }
        }
        return true;
    }

    private int pagesByWidth(int width) {
        sheet.lay(poll, 0, width);
        return sheet.pages();
    }

    private static boolean within(int number, int least, int most) {
        return number >= least && number <= most;
    }

    private static boolean allowed(int what, int value) {
        if (!within(what, 0, SETTINGS - 1)) {
            return false;
        }
        if (what == FOLD && value == 0) {
            return true;
        }
        return within(value, Row.get(LEAST, what), Row.get(MOST, what));
    }

    private static int roundedUp(int number, int divisor) {
        return divisor > 0 ? (number + divisor - 1) / divisor : 0;
    }

    /** Rows of numbers; each index is looked at here, before it is used. */
    private static final class Row {
        private Row() {
        }

        static int get(int[] row, int index) {
            return row != null && index >= 0 && index < row.length ? row[index] : 0;
        }

        static void put(int[] row, int index, int value) {
            if (row != null && index >= 0 && index < row.length) {
                row[index] = value;
            }
        }

        static void add(int[] row, int index, int more) {
            put(row, index, get(row, index) + more);
        }

        static int sum(int[] row, int from, int many) {
            int sum = 0;
            for (int i = 0; i < many; i++) {
                sum += get(row, from + i);
            }
            return sum;
        }

        static void wipe(int[] row, int from) {
            if (row != null) {
                for (int i = from; i < row.length; i++) {
                    put(row, i, 0);
                }
            }
        }

        static void copy(int[] from, int[] to) {
            if (from != null && to != null && from.length == to.length) {
                System.arraycopy(from, 0, to, 0, from.length);
            }
        }
    }

    /** What a state of the history records: contests, names, papers, settings and votes. */
    private static final class Poll {
        private int contests;
        private int ballots;
        private final int[] titles;
        private final int[] seats;
        private final int[] ways;
        private final int[] names;
        private final int[] spoilt;
        private final int[] blank;
        private final int[] lengths;
        private final int[] votes;
        private final int[] papers;
        private final int[] settings;

        Poll() {
            titles = new int[MOST_CONTESTS];
            seats = new int[MOST_CONTESTS];
            ways = new int[MOST_CONTESTS];
            names = new int[MOST_CONTESTS];
            spoilt = new int[MOST_CONTESTS];
            blank = new int[MOST_CONTESTS];
            lengths = new int[MOST_CONTESTS * MOST_NAMES];
            votes = new int[MOST_CONTESTS * MOST_NAMES];
            papers = new int[MOST_VERSIONS];
            settings = new int[SETTINGS];
            Row.copy(AT_FIRST, settings);
        }

        void become(Poll other) {
            contests = other.contests;
            ballots = other.ballots;
            Row.copy(other.titles, titles);
            Row.copy(other.seats, seats);
            Row.copy(other.ways, ways);
            Row.copy(other.names, names);
            Row.copy(other.spoilt, spoilt);
            Row.copy(other.blank, blank);
            Row.copy(other.lengths, lengths);
            Row.copy(other.votes, votes);
            Row.copy(other.papers, papers);
            Row.copy(other.settings, settings);
        }

        static int slot(int contest, int name) {
            return contest * MOST_NAMES + name;
        }

        int addContest(int title, int seatsOfIt) {
            int contest = contests;
            Row.put(titles, contest, title);
            Row.put(seats, contest, seatsOfIt);
            contests++;
            return contest;
        }

        int addName(int contest, int length) {
            int name = namesIn(contest);
            Row.put(lengths, slot(contest, name), length);
            Row.add(names, contest, 1);
            return name;
        }

        int turnBy(int contest, int way) {
            int before = wayOf(contest);
            Row.put(ways, contest, way);
            return before;
        }

        int printPapers(int version, int many) {
            int before = papersIn(version);
            Row.put(papers, version, many);
            return before;
        }

        int change(int what, int value) {
            int before = setting(what);
            Row.put(settings, what, value);
            if (what == VERSIONS) {
                Row.wipe(papers, value);
            }
            return before;
        }

        int forgetVotes() {
            int before = ballots;
            ballots = 0;
            Row.wipe(votes, 0);
            Row.wipe(spoilt, 0);
            Row.wipe(blank, 0);
            return before;
        }

        void addBallot() {
            ballots++;
        }

        void addVote(int contest, int name) {
            if (hasName(contest, name)) {
                Row.add(votes, slot(contest, name), 1);
            }
        }

        void addSpoilt(int contest) {
            Row.add(spoilt, contest, 1);
        }

        void addBlank(int contest) {
            Row.add(blank, contest, 1);
        }

        boolean hasContest(int contest) {
            return within(contest, 0, contests - 1);
        }

        boolean hasName(int contest, int name) {
            return hasContest(contest) && within(name, 0, namesIn(contest) - 1);
        }

        boolean hasVersion(int version) {
            return within(version, 0, setting(VERSIONS) - 1);
        }

        boolean hasSeat(int contest, int name) {
            int own = votesOf(contest, name);
            int better = 0;
            for (int other = 0; other < namesIn(contest); other++) {
                int votesOfOther = votesOf(contest, other);
                if (votesOfOther > own || votesOfOther == own && other < name) {
                    better++;
                }
            }
            return better < seatsOf(contest);
        }

        int nameAt(int version, int contest, int place) {
            int many = hasContest(contest) ? namesIn(contest) : 0;
            if (version < 0 || many <= 0 || !within(place, 0, many - 1)) {
                return NONE;
            }
            int way = wayOf(contest);
            if (way == WAY_ROUND) {
                return (version % many + place) % many;
            }
            return way == WAY_BACK && version % 2 != 0 ? many - 1 - place : place;
        }

        int placeOf(int version, int contest, int name) {
            for (int place = 0; place < namesIn(contest); place++) {
                if (nameAt(version, contest, place) == name) {
                    return place;
                }
            }
            return NONE;
        }

        int contests() {
            return contests;
        }

        int ballots() {
            return ballots;
        }

        int setting(int what) {
            return Row.get(settings, what);
        }

        int titleOf(int contest) {
            return Row.get(titles, contest);
        }

        int seatsOf(int contest) {
            return Row.get(seats, contest);
        }

        int wayOf(int contest) {
            return Row.get(ways, contest);
        }

        int namesIn(int contest) {
            return Row.get(names, contest);
        }

        int votesIn(int contest) {
            return Row.sum(votes, slot(contest, 0), namesIn(contest));
        }

        int spoiltIn(int contest) {
            return Row.get(spoilt, contest);
        }

        int blankIn(int contest) {
            return Row.get(blank, contest);
        }

        int lengthOf(int contest, int name) {
            return Row.get(lengths, slot(contest, name));
        }

        int votesOf(int contest, int name) {
            return Row.get(votes, slot(contest, name));
        }

        int papersIn(int version) {
            return Row.get(papers, version);
        }

        int allNames() {
            return Row.sum(names, 0, contests);
        }

        int allPapers() {
            return Row.sum(papers, 0, setting(VERSIONS));
        }
    }

    /** The latest states, in a ring of polls that are used again. */
    private static final class History {
        private final Poll[] states;
        private int oldest;
        private int kept;

        History() {
            states = new Poll[MOST_STATES];
            for (int i = 0; i < states.length; i++) {
                states[i] = new Poll();
            }
        }

        int kept() {
            return kept;
        }

        void keep(Poll poll) {
            if (kept == MOST_STATES) {
                oldest = (oldest + 1) % MOST_STATES;
                kept--;
            }
            Poll free = stateAt((oldest + kept) % MOST_STATES);
            if (free != null) {
                free.become(poll);
                kept++;
            }
        }

        void restore(Poll poll) {
            if (kept > 0) {
                kept--;
                Poll latest = stateAt((oldest + kept) % MOST_STATES);
                if (latest != null) {
                    poll.become(latest);
                }
            }
        }

        private Poll stateAt(int index) {
            return index >= 0 && index < states.length ? states[index] : null;
        }
    }

    /** How often each name of one contest is first. */
    private static final class Firsts {
        private final int[] times;

        Firsts() {
            times = new int[MOST_NAMES];
        }

        void onPapers(Poll poll, int contest) {
            Row.wipe(times, 0);
            for (int version = 0; version < poll.setting(VERSIONS); version++) {
                Row.add(times, poll.nameAt(version, contest, 0), poll.papersIn(version));
            }
        }

        void inVersions(Poll poll, int contest, int versions) {
            Row.wipe(times, 0);
            for (int version = 0; version < versions; version++) {
                Row.add(times, poll.nameAt(version, contest, 0), 1);
            }
        }

        int timesOf(int name) {
            return Row.get(times, name);
        }

        int difference(int names) {
            int most = timesOf(0);
            int fewest = most;
            for (int name = 1; name < names; name++) {
                most = Math.max(most, timesOf(name));
                fewest = Math.min(fewest, timesOf(name));
            }
            return most - fewest;
        }
    }

    /** The paper of one version: where each name lies. */
    private static final class Sheet {
        private final int[] columnOf;
        private final int[] lineOf;
        private final int[] linesOf;
        private final int[] names;
        private int columnsOnPage;
        private int linesInColumn;
        private int fold;
        private int columns;
        private int next;
        private int taken;
        private int later;
        private int begunByNames;

        Sheet() {
            columnOf = new int[MOST_CONTESTS * MOST_NAMES];
            lineOf = new int[MOST_CONTESTS * MOST_NAMES];
            linesOf = new int[MOST_CONTESTS * MOST_NAMES];
            names = new int[MOST_CONTESTS];
        }

        void lay(Poll poll, int version, int width) {
            columnsOnPage = poll.setting(COLUMNS);
            linesInColumn = poll.setting(LINES);
            fold = poll.setting(FOLD);
            columns = 0;
            next = 0;
            taken = 0;
            later = 0;
            begunByNames = 0;
            for (int contest = 0; contest < poll.contests(); contest++) {
                int many = poll.namesIn(contest);
                Row.put(names, contest, many);
                measure(poll, contest, width);
                if (many > 0) {
                    int perLanguage = roundedUp(poll.titleOf(contest), width);
                    int first = poll.nameAt(version, contest, 0);
                    layTitle(perLanguage * poll.setting(LANGUAGES), linesOf(contest, first));
                    layNames(poll, version, contest);
                }
            }
        }

        private void measure(Poll poll, int contest, int width) {
            for (int name = 0; name < poll.namesIn(contest); name++) {
                int lines = roundedUp(poll.lengthOf(contest, name), width - WIDTH_OF_MARK);
                Row.put(linesOf, Poll.slot(contest, name), lines);
            }
        }

        private void layTitle(int lines, int linesOfFirst) {
            int start = next + 1;
            if (columns == 0 || !fits(behindFold(start + lines), linesOfFirst)) {
                columns++;
                start = 0;
            }
            next = start + lines;
            taken += lines;
        }

        private void layNames(Poll poll, int version, int contest) {
            for (int place = 0; place < poll.namesIn(contest); place++) {
                layName(Poll.slot(contest, poll.nameAt(version, contest, place)));
            }
        }

        private void layName(int slot) {
            int lines = Row.get(linesOf, slot);
            int line = behindFold(next);
            if (!fits(line, lines)) {
                columns++;
                line = 0;
                begunByNames++;
            } else if (line > next) {
                later++;
            }
            Row.put(columnOf, slot, columns - 1);
            Row.put(lineOf, slot, line);
            next = line + lines;
            taken += lines;
        }

        private boolean fits(int line, int lines) {
            return line + lines <= linesInColumn;
        }

        private int behindFold(int line) {
            return fold > 0 && (line + 1) % fold == 0 ? line + 1 : line;
        }

        int nameWithMarkAt(int contest, int page, int column, int line) {
            for (int name = 0; name < Row.get(names, contest); name++) {
                if (pageOf(contest, name) == page && columnOnPage(contest, name) == column
                        && lineOf(contest, name) == line) {
                    return name;
                }
            }
            return NONE;
        }

        int pageOf(int contest, int name) {
            int column = Row.get(columnOf, Poll.slot(contest, name));
            return columnsOnPage > 0 ? column / columnsOnPage : 0;
        }

        int columnOnPage(int contest, int name) {
            int column = Row.get(columnOf, Poll.slot(contest, name));
            return columnsOnPage > 0 ? column % columnsOnPage : 0;
        }

        int lineOf(int contest, int name) {
            return Row.get(lineOf, Poll.slot(contest, name));
        }

        int linesOf(int contest, int name) {
            return Row.get(linesOf, Poll.slot(contest, name));
        }

        int pages() {
            return roundedUp(columns, columnsOnPage);
        }

        int columns() {
            return columns;
        }

        int taken() {
            return taken;
        }

        int later() {
            return later;
        }

        int begunByNames() {
            return begunByNames;
        }
    }

    /** The characters that were typed. */
    private static final class Text {
        private final int[] signs;
        private int length;

        Text() {
            signs = new int[MOST_SIGNS];
        }

        int length() {
            return length;
        }

        int append(int sign) {
            if (length < MOST_SIGNS) {
                Row.put(signs, length, sign);
                length++;
            }
            return length;
        }

        int empty() {
            int before = length;
            length = 0;
            return before;
        }

        int signAt(int index) {
            return within(index, 0, length - 1) ? Row.get(signs, index) : NONE;
        }

        boolean hasDigitAt(int index) {
            return within(signAt(index), '0', '9');
        }

        int digitAt(int index) {
            return signAt(index) - '0';
        }
    }

    /** A text that is read as a ballot: its version, its marks and its fault. */
    private static final class Ballot {
        private final int[] contestOfMark;
        private final int[] placeOfMark;
        private final int[] signOfMark;
        private int version;
        private int marks;
        private int faultAt;
        private int reason;

        Ballot() {
            contestOfMark = new int[MOST_MARKS];
            placeOfMark = new int[MOST_MARKS];
            signOfMark = new int[MOST_MARKS];
        }

        int reason() {
            return reason;
        }

        int faultAt() {
            return faultAt;
        }

        void read(Text text, Poll poll) {
            faultAt = NONE;
            reason = NO_FAULT;
            marks = 0;
            int behindVersion = readVersion(text);
            if (reason == NO_FAULT) {
                readMarks(text, behindVersion);
            }
            if (reason == NO_FAULT) {
                judge(poll);
            }
        }

        private void blame(int index, int why) {
            faultAt = index;
            reason = why;
        }

        private int readVersion(Text text) {
            version = 0;
            if (!text.hasDigitAt(0)) {
                blame(0, WRONG_SIGN);
                return 0;
            }
            version = text.digitAt(0);
            int behind = 1;
            if (version != 0 && text.hasDigitAt(behind)) {
                version = version * 10 + text.digitAt(behind);
                behind++;
            }
            if (text.signAt(behind) != ':') {
                blame(behind, WRONG_SIGN);
            }
            return behind + 1;
        }

        private void readMarks(Text text, int from) {
            if (from == text.length()) {
                return;
            }
            for (int index = from; index < text.length(); index += 3) {
                if (!within(text.signAt(index), 'a', 'f')) {
                    blame(index, WRONG_SIGN);
                    return;
                }
                if (!text.hasDigitAt(index + 1)) {
                    blame(index + 1, WRONG_SIGN);
                    return;
                }
                noteMark(index, text.signAt(index) - 'a', text.digitAt(index + 1));
                if (index + 2 == text.length()) {
                    return;
                }
                if (text.signAt(index + 2) != ',') {
                    blame(index + 2, WRONG_SIGN);
                    return;
                }
            }
            // Only a "," at the end leads here, and behind it a mark is missing.
            blame(text.length(), WRONG_SIGN);
        }

        private void noteMark(int index, int contest, int place) {
            Row.put(signOfMark, marks, index);
            Row.put(contestOfMark, marks, contest);
            Row.put(placeOfMark, marks, place);
            marks++;
        }

        private void judge(Poll poll) {
            if (!poll.hasVersion(version)) {
                blame(0, NO_VERSION);
                return;
            }
            for (int mark = 0; mark < marks; mark++) {
                if (nameOfMark(poll, mark) == NONE) {
                    blame(Row.get(signOfMark, mark), NO_NAME);
                    return;
                }
                if (standsAhead(mark)) {
                    blame(Row.get(signOfMark, mark), MARK_AGAIN);
                    return;
                }
            }
        }

        private int nameOfMark(Poll poll, int mark) {
            int contest = Row.get(contestOfMark, mark);
            return poll.nameAt(version, contest, Row.get(placeOfMark, mark));
        }

        private boolean standsAhead(int mark) {
            for (int other = 0; other < mark; other++) {
                if (Row.get(contestOfMark, other) == Row.get(contestOfMark, mark)
                        && Row.get(placeOfMark, other) == Row.get(placeOfMark, mark)) {
                    return true;
                }
            }
            return false;
        }

        int countIn(Poll poll) {
            poll.addBallot();
            int more = 0;
            for (int contest = 0; contest < poll.contests(); contest++) {
                int many = marksIn(contest);
                if (many > poll.seatsOf(contest)) {
                    poll.addSpoilt(contest);
                } else if (many > 0) {
                    addVotes(poll, contest);
                    more += many;
                } else if (poll.namesIn(contest) > 0) {
                    poll.addBlank(contest);
                }
            }
            return more;
        }

        private int marksIn(int contest) {
            int many = 0;
            for (int mark = 0; mark < marks; mark++) {
                if (Row.get(contestOfMark, mark) == contest) {
                    many++;
                }
            }
            return many;
        }

        private void addVotes(Poll poll, int contest) {
            for (int mark = 0; mark < marks; mark++) {
                if (Row.get(contestOfMark, mark) == contest) {
                    poll.addVote(contest, nameOfMark(poll, mark));
                }
            }
        }
    }
}
