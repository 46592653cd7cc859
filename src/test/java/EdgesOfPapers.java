/** The sentences of "Papers, first names" and of "Settings". */
final class EdgesOfPapers {
    private static final String PAPERS = "Papers, first names";
    private static final String SETTINGS = "Settings";
    private static final int INVALID = BallotPapers.INVALID_ARGUMENT;
    private static final int NOT_FOUND = BallotPapers.NOT_FOUND;

    private EdgesOfPapers() {
    }

    static void all() {
        Edge.of(PAPERS, "Each version has papers (0 to 9999; 0 at first).",
                EdgesOfPapers::papersOfVersions);
        Edge.of(PAPERS, "A name is first on the papers of those versions in which it is the first "
                + "one of its contest.", EdgesOfPapers::firstNames);
        Edge.of(PAPERS, "Versions are even, if, with as many papers of each version, all names of "
                + "each contest that has names are first on as many papers.",
                EdgesOfPapers::evenVersions);
        Edge.of(SETTINGS, "0 columns on a page (1 to 4; 2)", () -> setting(0, 1, 4, 2));
        Edge.of(SETTINGS, "1 lines (16 to 60; 24)", () -> setting(1, 16, 60, 24));
        Edge.of(SETTINGS, "2 width (8 to 40; 20)", () -> setting(2, 8, 40, 20));
        Edge.of(SETTINGS, "3 languages (1 to 3; 1)", () -> setting(3, 1, 3, 1));
        Edge.of(SETTINGS, "4 fold (0, or 4 to 30; 0)", EdgesOfPapers::fold);
        Edge.of(SETTINGS, "5 versions (1 to 24; 1;", () -> setting(5, 1, 24, 1));
        Edge.of(SETTINGS, "papers of versions that are gone are gone, too",
                EdgesOfPapers::versionsThatAreGone);
    }

    private static void papersOfVersions() {
        BallotPapers x = new BallotPapers();
        x.set(5, 24);
        for (int version = 0; version < 24; version++) {
            Due.is("papersOf(" + version + ") at first", x.papersOf(version), 0);
        }
        Due.is("papers of all at first", x.count(2), 0);
        for (int version = 0; version < 24; version++) {
            Due.is("papers(" + version + ", 10000)", x.papers(version, 10000), INVALID);
            Due.is("papers(" + version + ", -1)", x.papers(version, -1), INVALID);
            Due.is("papers(" + version + ", 9999)", x.papers(version, 9999), 0);
            Due.is("papersOf(" + version + ")", x.papersOf(version), 9999);
        }
        Due.is("all that there may be", x.count(2), 24 * 9999);
        Due.is("papers(23, 0)", x.papers(23, 0), 9999);
        Due.is("papersOf(23)", x.papersOf(23), 0);
        Due.is("papers of all", x.count(2), 23 * 9999);
        // A version that was there, and was gone, has no papers at first when it is there again.
        x.set(5, 1);
        x.set(5, 2);
        Due.is("papersOf(1)", x.papersOf(1), 0);
    }

    private static void firstNames() {
        // Powers of two: each sum tells its versions.
        for (int names = 1; names <= 8; names++) {
            BallotPapers x = States.names(names);
            x.set(5, 13);
            for (int version = 0; version < 13; version++) {
                x.papers(version, 1 << version);
            }
            for (int way = 0; way <= 2; way++) {
                x.way(0, way);
                int[] due = new int[names];
                for (int version = 0; version < 13; version++) {
                    int back = version % 2 == 0 ? 0 : names - 1;
                    int first = way == 0 ? 0 : way == 1 ? version % names : back;
                    due[first] += 1 << version;
                }
                for (int name = 0; name < names; name++) {
                    Due.is(names + " names, way " + way + ", name " + name,
                            x.nameOf(0, name, 2), due[name]);
                }
            }
        }
        // No papers, and all that there may be.
        BallotPapers none = States.names(2);
        Due.is("without papers", none.nameOf(0, 0, 2), 0);
        BallotPapers full = States.full();
        Due.is("all papers", full.nameOf(0, 0, 2), 24 * 9999);
        Due.is("all papers", full.nameOf(0, 7, 2), 0);
        Due.is("a part of the papers", full.nameOf(5, 7, 2), 3 * 9999);
        Due.is("the difference", full.spread(0), 24 * 9999);
        Due.is("the difference", full.spread(5), 0);
    }

    private static void evenVersions() {
        Due.is("without contests", new BallotPapers().evenVersions(), 1);
        BallotPapers x = new BallotPapers();
        x.contest(1, 1);
        Due.is("without names", x.evenVersions(), 1);
        x.name(0, 1);
        for (int way = 0; way <= 2; way++) {
            x.way(0, way);
            Due.is("one name, way " + way, x.evenVersions(), 1);
        }
        x.name(0, 1);
        int[] two = {NOT_FOUND, 2, 2};
        for (int way = 0; way <= 2; way++) {
            x.way(0, way);
            Due.is("two names, way " + way, x.evenVersions(), two[way]);
        }
        x.name(0, 1);
        int[] three = {NOT_FOUND, 3, NOT_FOUND};
        for (int way = 0; way <= 2; way++) {
            x.way(0, way);
            Due.is("three names, way " + way, x.evenVersions(), three[way]);
        }
        // A contest without names plays no part, whichever its way is.
        x.way(0, 1);
        x.contest(1, 1);
        Due.is("beside a contest without names", x.evenVersions(), 3);
        // As many papers of each version: not those that there are, nor the versions there are.
        x.papers(0, 9999);
        Due.is("with papers of one version", x.evenVersions(), 3);
        x.set(5, 24);
        Due.is("with 24 versions", x.evenVersions(), 3);
    }

    private static void setting(int what, int least, int most, int first) {
        Due.is("at first", new BallotPapers().count(10 + what), first);
        Edge.range("set(" + what + ", #)", least, most, v -> new BallotPapers().set(what, v),
                v -> first);
        BallotPapers x = new BallotPapers();
        for (int value = least; value <= most; value++) {
            x.set(what, value);
            Due.is("setting " + what, x.count(10 + what), value);
        }
        Due.is("one too many", x.set(what, most + 1), INVALID);
        Due.is("the last one stays", x.count(10 + what), most);
        x.set(what, least);
        Due.is("one too few", x.set(what, least - 1), INVALID);
        Due.is("the least one stays", x.count(10 + what), least);
    }

    private static void fold() {
        Due.is("at first", new BallotPapers().count(14), 0);
        BallotPapers x = new BallotPapers();
        int before = 0;
        for (int value = -2; value <= 33; value++) {
            boolean allowed = value == 0 || value >= 4 && value <= 30;
            Due.is("set(4, " + value + ")", x.set(4, value), allowed ? before : INVALID);
            before = allowed ? value : before;
            Due.is("the fold", x.count(14), before);
        }
        Due.is("set(4, 0)", x.set(4, 0), 30);
        for (int value : Edge.outside(0, 30)) {
            Due.is("set(4, " + value + ")", x.set(4, value), INVALID);
        }
        Due.is("the fold", x.count(14), 0);
    }

    private static void versionsThatAreGone() {
        BallotPapers x = States.names(2);
        x.way(0, 1);
        x.set(5, 24);
        for (int version = 0; version < 24; version++) {
            x.papers(version, version + 1);
        }
        Due.is("as many as there are", x.set(5, 24), 24);
        Due.is("papers of all stay", x.count(2), 300);
        Due.is("one less", x.set(5, 23), 24);
        Due.is("papers of all", x.count(2), 276);
        Due.is("papersOf(22)", x.papersOf(22), 23);
        Due.is("papersOf(23)", x.papersOf(23), INVALID);
        Due.is("one more", x.set(5, 24), 23);
        Due.is("papersOf(23)", x.papersOf(23), 0);
        Due.is("papersOf(22)", x.papersOf(22), 23);
        Due.is("only the first", x.set(5, 1), 24);
        Due.is("papers of all", x.count(2), 1);
        Due.is("papers on which the name 0 is first", x.nameOf(0, 0, 2), 1);
        Due.is("papers on which the name 1 is first", x.nameOf(0, 1, 2), 0);
        Due.is("all again", x.set(5, 24), 1);
        Due.is("papersOf(0)", x.papersOf(0), 1);
        for (int version = 1; version < 24; version++) {
            Due.is("papersOf(" + version + ")", x.papersOf(version), 0);
        }
        Due.is("papers on which the name 1 is first", x.nameOf(0, 1, 2), 0);
        // Other settings take no papers, and undo brings those that are gone back.
        x.papers(23, 7);
        x.set(0, 1);
        x.set(3, 1);
        Due.is("papers of all", x.count(2), 8);
        x.set(5, 23);
        Due.is("papers of all", x.count(2), 1);
        x.undo();
        Due.is("papers of all", x.count(2), 8);
        Due.is("papersOf(23)", x.papersOf(23), 7);
    }
}
