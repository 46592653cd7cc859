import java.util.ArrayDeque;
import java.util.ArrayList;
import java.util.Collections;
import java.util.Deque;
import java.util.HashSet;
import java.util.List;
import java.util.Map;
import java.util.Set;
import java.util.TreeMap;
import java.util.regex.Matcher;
import java.util.regex.Pattern;

/** The document once more, in other words than the class: with lists, copies and patterns. */
final class Model {
    private static final int INVALID = -1;
    private static final int IMPOSSIBLE = -2;
    private static final int LIMIT = -3;
    private static final int MISSING = -4;
    private static final Pattern BALLOT =
            Pattern.compile("(0|[1-9][0-9]?):([a-f][0-9](,[a-f][0-9])*)?");

    private static final class Name {
        int length;
        int votes;
    }

    private static final class Contest {
        int title;
        int seats;
        int way;
        int spoilt;
        int blank;
        List<Name> names = new ArrayList<>();

        Contest copy() {
            Contest c = new Contest();
            c.title = title;
            c.seats = seats;
            c.way = way;
            c.spoilt = spoilt;
            c.blank = blank;
            for (Name n : names) {
                Name m = new Name();
                m.length = n.length;
                m.votes = n.votes;
                c.names.add(m);
            }
            return c;
        }

        List<Integer> order(int version) {
            List<Integer> order = new ArrayList<>();
            for (int i = 0; i < names.size(); i++) {
                order.add(i);
            }
            if (way == 1 && !order.isEmpty()) {
                Collections.rotate(order, -(version % order.size()));
            }
            if (way == 2 && version % 2 == 1) {
                Collections.reverse(order);
            }
            return order;
        }
    }

    private static final class State {
        List<Contest> contests = new ArrayList<>();
        Map<Integer, Integer> papers = new TreeMap<>();
        int[] settings = {2, 24, 20, 1, 0, 1};
        int ballots;

        State copy() {
            State s = new State();
            for (Contest c : contests) {
                s.contests.add(c.copy());
            }
            s.papers.putAll(papers);
            s.settings = settings.clone();
            s.ballots = ballots;
            return s;
        }
    }

    /** A name on a paper. */
    private record Spot(int contest, int name, int place, int column, int line, int lines) {
    }

    private static final class Layout {
        List<Spot> spots = new ArrayList<>();
        int columns;
        int taken;
        int later;
        int begun;

        int pages(int perPage) {
            return columns / perPage + (columns % perPage > 0 ? 1 : 0);
        }
    }

    private State now = new State();
    private final Deque<State> past = new ArrayDeque<>();
    private final StringBuilder text = new StringBuilder();

    private void change() {
        past.addLast(now.copy());
        if (past.size() == 5) {
            past.removeFirst();
        }
    }

    private Contest at(int contest) {
        return contest >= 0 && contest < now.contests.size() ? now.contests.get(contest) : null;
    }

    private boolean noVersion(int version) {
        return version < 0 || version >= now.settings[5];
    }

    private static boolean out(int n, int least, int most) {
        return n < least || n > most;
    }

    int contest(int title, int seats) {
        if (out(title, 1, 20) || out(seats, 1, 3)) {
            return INVALID;
        }
        if (now.contests.size() == 6) {
            return LIMIT;
        }
        change();
        Contest c = new Contest();
        c.title = title;
        c.seats = seats;
        now.contests.add(c);
        return now.contests.size() - 1;
    }

    int name(int contest, int length) {
        if (at(contest) == null || out(length, 1, 20)) {
            return INVALID;
        }
        if (now.ballots != 0) {
            return IMPOSSIBLE;
        }
        if (at(contest).names.size() == 8) {
            return LIMIT;
        }
        change();
        Name n = new Name();
        n.length = length;
        at(contest).names.add(n);
        return at(contest).names.size() - 1;
    }

    int way(int contest, int way) {
        if (at(contest) == null || out(way, 0, 2)) {
            return INVALID;
        }
        if (now.ballots != 0) {
            return IMPOSSIBLE;
        }
        change();
        int was = at(contest).way;
        at(contest).way = way;
        return was;
    }

    int papers(int version, int many) {
        if (noVersion(version) || out(many, 0, 9999)) {
            return INVALID;
        }
        change();
        Integer was = now.papers.put(version, many);
        return was == null ? 0 : was;
    }

    int set(int what, int value) {
        if (out(what, 0, 5)) {
            return INVALID;
        }
        int[][] ranges = {{1, 4}, {16, 60}, {8, 40}, {1, 3}, {4, 30}, {1, 24}};
        if (out(value, ranges[what][0], ranges[what][1]) && !(what == 4 && value == 0)) {
            return INVALID;
        }
        change();
        int was = now.settings[what];
        now.settings[what] = value;
        now.papers.keySet().removeIf(v -> v >= now.settings[5]);
        return was;
    }

    int clear() {
        change();
        int was = now.ballots;
        now.ballots = 0;
        for (Contest c : now.contests) {
            c.spoilt = 0;
            c.blank = 0;
            c.names.forEach(n -> n.votes = 0);
        }
        return was;
    }

    int contestOf(int contest, int what) {
        if (at(contest) == null || out(what, 0, 6)) {
            return INVALID;
        }
        Contest c = at(contest);
        int votes = c.names.stream().mapToInt(n -> n.votes).sum();
        return new int[] {c.title, c.seats, c.way, c.names.size(), votes, c.spoilt, c.blank}[what];
    }

    private int firstOn(Contest c, int name) {
        return now.papers.entrySet().stream().filter(e -> c.order(e.getKey()).get(0) == name)
                .mapToInt(Map.Entry::getValue).sum();
    }

    private int seat(Contest c, int name) {
        List<Integer> ranks = new ArrayList<>(c.order(0));
        Collections.sort(ranks);
        ranks.sort((a, b) -> c.names.get(b).votes - c.names.get(a).votes);
        return ranks.indexOf(name) < c.seats ? 1 : 0;
    }

    int nameOf(int contest, int name, int what) {
        if (at(contest) == null || out(name, 0, at(contest).names.size() - 1)
                || out(what, 0, 3)) {
            return INVALID;
        }
        Contest c = at(contest);
        Name n = c.names.get(name);
        return new int[] {n.length, n.votes, firstOn(c, name), seat(c, name)}[what];
    }

    int count(int what) {
        if (what >= 10 && what <= 15) {
            return now.settings[what - 10];
        }
        if (out(what, 0, 5)) {
            return INVALID;
        }
        int names = now.contests.stream().mapToInt(c -> c.names.size()).sum();
        int papers = now.papers.values().stream().mapToInt(i -> i).sum();
        return new int[] {now.contests.size(), names, papers, now.ballots, past.size(),
            text.length()}[what];
    }

    int papersOf(int version) {
        return noVersion(version) ? INVALID : now.papers.getOrDefault(version, 0);
    }

    int stands(int version, int contest, int place) {
        if (noVersion(version) || at(contest) == null || place < 0) {
            return INVALID;
        }
        List<Integer> order = at(contest).order(version);
        return place < order.size() ? order.get(place) : MISSING;
    }

    private static int lines(int length, int width) {
        return (int) Math.ceil((double) length / width);
    }

    private int past(int line) {
        int fold = now.settings[4];
        return fold != 0 && (line + 1) % fold == 0 ? line + 1 : line;
    }

    private Layout layout(int version, int width) {
        Layout l = new Layout();
        int height = now.settings[1];
        int column = 0;
        int line = 0;
        for (int c = 0; c < now.contests.size(); c++) {
            List<Integer> order = now.contests.get(c).order(version);
            if (order.isEmpty()) {
                continue;
            }
            int title = lines(now.contests.get(c).title, width) * now.settings[3];
            if (!l.spots.isEmpty()) {
                line++;
                int first = lines(now.contests.get(c).names.get(order.get(0)).length, width - 3);
                if (past(line + title) + first > height) {
                    column++;
                    line = 0;
                }
            }
            line += title;
            l.taken += title;
            for (int place = 0; place < order.size(); place++) {
                int name = order.get(place);
                int own = lines(now.contests.get(c).names.get(name).length, width - 3);
                boolean moved = past(line) != line;
                line = past(line);
                if (line + own > height) {
                    column++;
                    line = 0;
                    moved = false;
                    l.begun++;
                }
                l.later += moved ? 1 : 0;
                l.spots.add(new Spot(c, name, place, column, line, own));
                line += own;
                l.taken += own;
            }
            l.columns = column + 1;
        }
        return l;
    }

    int lies(int version, int contest, int name, int what) {
        if (noVersion(version) || at(contest) == null
                || out(name, 0, at(contest).names.size() - 1) || out(what, 0, 4)) {
            return INVALID;
        }
        for (Spot s : layout(version, now.settings[2]).spots) {
            if (s.contest() == contest && s.name() == name) {
                int perPage = now.settings[0];
                return new int[] {s.column() / perPage, s.column() % perPage, s.line(),
                    s.place(), s.lines()}[what];
            }
        }
        throw new IllegalStateException("a name lies nowhere");
    }

    int markAt(int version, int page, int column, int line, int what) {
        if (noVersion(version) || page < 0 || out(column, 0, now.settings[0] - 1)
                || out(line, 0, now.settings[1] - 1) || out(what, 0, 1)) {
            return INVALID;
        }
        long there = (long) page * now.settings[0] + column;
        for (Spot s : layout(version, now.settings[2]).spots) {
            if (s.column() == there && s.line() == line) {
                return what == 0 ? s.contest() : s.name();
            }
        }
        return MISSING;
    }

    int paper(int version, int what) {
        if (noVersion(version) || out(what, 0, 4)) {
            return INVALID;
        }
        Layout l = layout(version, now.settings[2]);
        return new int[] {l.pages(now.settings[0]), l.columns, l.taken, l.later, l.begun}[what];
    }

    int spread(int contest) {
        if (at(contest) == null) {
            return INVALID;
        }
        List<Integer> firsts = new ArrayList<>();
        for (int name = 0; name < at(contest).names.size(); name++) {
            firsts.add(firstOn(at(contest), name));
        }
        return firsts.isEmpty() ? MISSING : Collections.max(firsts) - Collections.min(firsts);
    }

    int evenVersions() {
        for (int versions = 1; versions <= 24; versions++) {
            boolean even = true;
            for (Contest c : now.contests) {
                int n = c.names.size();
                boolean alone = n <= 1;
                boolean round = c.way == 1 && n > 0 && versions % n == 0;
                boolean back = c.way == 2 && n == 2 && versions % 2 == 0;
                even &= alone || round || back;
            }
            if (even) {
                return versions;
            }
        }
        return MISSING;
    }

    int bestWidth(int what) {
        if (out(what, 0, 1)) {
            return INVALID;
        }
        TreeMap<Integer, Integer> leastWidth = new TreeMap<>();
        for (int width = 40; width >= 8; width--) {
            leastWidth.put(layout(0, width).pages(now.settings[0]), width);
        }
        return what == 0 ? leastWidth.firstEntry().getValue() : leastWidth.firstKey();
    }

    int undo() {
        if (past.isEmpty()) {
            return IMPOSSIBLE;
        }
        now = past.removeLast();
        return past.size();
    }

    int type(int character) {
        if (out(character, 32, 126)) {
            return INVALID;
        }
        if (text.length() == 40) {
            return LIMIT;
        }
        text.append((char) character);
        return text.length();
    }

    int clearText() {
        int was = text.length();
        text.setLength(0);
        return was;
    }

    /** Place and reason, or null. */
    private int[] findFault() {
        for (int end = 1; end <= text.length(); end++) {
            Matcher m = BALLOT.matcher(text.substring(0, end));
            if (!m.matches() && !m.hitEnd()) {
                return new int[] {end - 1, 1};
            }
        }
        if (!BALLOT.matcher(text).matches()) {
            return new int[] {text.length(), 1};
        }
        int colon = text.indexOf(":");
        int version = Integer.parseInt(text.substring(0, colon));
        if (noVersion(version)) {
            return new int[] {0, 2};
        }
        Set<String> seen = new HashSet<>();
        for (int i = colon + 1; i < text.length(); i += 3) {
            if (stands(version, text.charAt(i) - 'a', text.charAt(i + 1) - '0') < 0) {
                return new int[] {i, 3};
            }
            if (!seen.add(text.substring(i, i + 2))) {
                return new int[] {i, 4};
            }
        }
        return null;
    }

    int fault(int what) {
        if (out(what, 0, 1)) {
            return INVALID;
        }
        int[] fault = findFault();
        return fault == null ? MISSING : fault[what];
    }

    int cast() {
        if (findFault() != null) {
            return IMPOSSIBLE;
        }
        if (now.ballots == 9999) {
            return LIMIT;
        }
        change();
        now.ballots++;
        String[] parts = text.toString().split(":");
        int version = Integer.parseInt(parts[0]);
        int more = 0;
        for (int i = 0; i < now.contests.size(); i++) {
            Contest c = now.contests.get(i);
            List<Name> marked = new ArrayList<>();
            for (String mark : (parts.length > 1 ? parts[1] : "").split(",")) {
                if (!mark.isEmpty() && mark.charAt(0) - 'a' == i) {
                    marked.add(c.names.get(c.order(version).get(mark.charAt(1) - '0')));
                }
            }
            if (marked.isEmpty()) {
                c.blank += c.names.isEmpty() ? 0 : 1;
            } else if (marked.size() > c.seats) {
                c.spoilt++;
            } else {
                marked.forEach(n -> n.votes++);
                more += marked.size();
            }
        }
        return more;
    }
}
