/** Terms 1 to 6, each boundary that they name. */
public final class TermEdgeTest {
    private static final int[] NONE = null;
    private static final int[] EMPTY = {};
    private static final String CONFLICT = "CONFLICT";

    private TermEdgeTest() {
    }

    private static int[] lines(int... lines) {
        return lines;
    }

    /** Makes file 3 of the DESK be so; NONE stands for no file. */
    private static void set(StrataRepo repo, int[] lines) {
        if (repo.deskLines(3) != -1) {
            repo.delete(3);
        }
        if (lines != NONE) {
            State.put(repo, 3, lines);
        }
    }

    /** A fork of file 3, with the HEAD at ours, commit 2; theirs is commit 1, on branch 0. */
    private static StrataRepo fork(int[] base, int[] ours, int[] theirs) {
        StrataRepo repo = State.desk(0);
        set(repo, base);
        repo.commit(10);
        repo.branch(1);
        set(repo, theirs);
        repo.create(5);
        repo.commit(20);
        repo.go(1);
        set(repo, ours);
        repo.create(6);
        repo.commit(30);
        return repo;
    }

    /** What file 3 is behind a merge; CONFLICT, if it is in one. */
    private static String merged(int[] base, int[] ours, int[] theirs) {
        StrataRepo repo = fork(base, ours, theirs);
        int answer = repo.merge(0);
        if (answer == 3 && repo.conflicts() == 1 && repo.conflictFile(0) == 3) {
            return CONFLICT;
        }
        return answer == 2 ? State.desk(repo, 3) : "?";
    }

    /** What file 3 is behind a merge with one CONFLICT, settled by each of the ways. */
    private static String settled(int[] base, int[] ours, int[] theirs) {
        StringBuilder text = new StringBuilder();
        for (int way = 0; way < 4; way++) {
            StrataRepo repo = fork(base, ours, theirs);
            if (repo.merge(0) != 3 || repo.conflicts() != 1) {
                return "?";
            }
            repo.settle(0, way);
            repo.goOn();
            text.append(way == 0 ? "" : "/").append(State.desk(repo, 3));
        }
        return text.toString();
    }

    // ---- term 1: trees

    static void term01_rowOfNoLines() {
        StrataRepo repo = State.desk(7);
        repo.commit(1);
        Edge.due(repo.lines(0, 7), 0);
        Edge.due(repo.deskLines(7), 0);
    }

    static void term01_fortyLines() {
        StrataRepo repo = State.desk(7, State.row(0, 40));
        repo.commit(1);
        Edge.due(repo.lines(0, 7), 40);
        Edge.due(repo.lineAt(0, 7, 39), 39);
        Edge.refused(Edge.STATE, () -> State.desk(7, State.row(0, 40)), r -> r.insert(7, 40, 0));
    }

    static void term01_numbers0And999() {
        StrataRepo repo = State.desk(0, 0, 999, 0);
        repo.commit(1);
        Edge.due(State.lines(repo, 0, 0), "0 999 0");
        Edge.refused(Edge.ARGUMENT, () -> State.desk(0), r -> r.insert(0, 0, -1), r -> r.insert(0, 0, 1000));
    }

    static void term01_names0And7() {
        StrataRepo repo = State.allFiles();
        repo.commit(1);
        Edge.due(repo.lines(0, 0), 0);
        Edge.due(State.lines(repo, 0, 7), "700 701 702 703 704 705 706");
        Edge.refused(Edge.INDEX, StrataRepo::new, r -> r.create(-1), r -> r.create(8));
    }

    static void term01_eachNameAtMostOnce() {
        Edge.refused(Edge.STATE, State::allFiles, r -> r.create(0), r -> r.create(7));
    }

    static void term01_deskIsEmptyAtFirst() {
        StrataRepo repo = new StrataRepo();
        for (int file = 0; file < 8; file++) {
            Edge.due(repo.deskLines(file), -1);
        }
    }

    static void term01_sameTrees() {
        StrataRepo repo = State.desk(0, 1, 2);
        repo.commit(1);
        repo.replace(0, 1, 3);
        repo.commit(2);
        repo.replace(0, 1, 2);
        repo.commit(3);
        Edge.due(repo.touched(0, 2), 0);
        Edge.due(repo.touched(0, 1), 1);
    }

    static void term01_longerAndShorterAreNotTheSame() {
        StrataRepo repo = State.desk(0, 1, 2);
        repo.commit(1);
        repo.insert(0, 2, 3);
        repo.commit(2);
        Edge.due(repo.touched(0, 1), 1);
        Edge.due(repo.touched(1, 0), 1);
        repo.reset(0);
        repo.erase(0, 1);
        Edge.due(repo.isClean(), false);
    }

    static void term01_fileWithoutLinesIsNotNoFile() {
        StrataRepo repo = State.desk(0, 1);
        repo.commit(1);
        repo.create(1);
        repo.commit(2);
        Edge.due(repo.touched(0, 1), 1);
        Edge.due(repo.touched(1, 0), 1);
    }

    static void term01_aCommitKeepsItsTree() {
        StrataRepo repo = State.desk(7, State.row(0, 40));
        repo.commit(1);
        repo.erase(7, 0);
        repo.replace(7, 38, 999);
        repo.create(0);
        Edge.due(repo.lines(0, 7), 40);
        Edge.due(repo.lineAt(0, 7, 0), 0);
        Edge.due(repo.lineAt(0, 7, 38), 38);
        Edge.due(repo.lineAt(0, 7, 39), 39);
        Edge.due(repo.lines(0, 0), -1);
    }

    // ---- term 2: commits

    static void term02_sixtyCommits() {
        StrataRepo repo = State.chain(60);
        Edge.due(repo.isThere(59), true);
        Edge.due(repo.parent(59, false), 58);
        Edge.refused(Edge.STATE, () -> {
            StrataRepo full = State.chain(60);
            full.create(1);
            return full;
        }, r -> r.commit(0));
    }

    static void term02_eightBranches() {
        StrataRepo repo = State.allBranches();
        for (int branch = 0; branch < 8; branch++) {
            Edge.due(repo.commitOf(branch), 0);
        }
        Edge.due(repo.commitOf(8), -2);
        Edge.due(repo.commitOf(-1), -2);
    }

    static void term02_itIsItsOwnAncestor() {
        StrataRepo repo = State.full();
        Edge.due(repo.isAncestor(0, 0), true);
        Edge.due(repo.isAncestor(59, 59), true);
    }

    static void term02_firstIsAncestorOfTheSixtieth() {
        StrataRepo repo = State.chain(60);
        Edge.due(repo.isAncestor(0, 59), true);
        Edge.due(repo.isAncestor(59, 0), false);
        Edge.due(repo.ahead(59, 0), 59);
    }

    static void term02_ancestorsByTheSecondParent() {
        StrataRepo repo = fork(NONE, NONE, NONE);
        repo.merge(0);
        Edge.due(repo.isAncestor(1, 3), true);
        Edge.due(repo.isAncestor(2, 3), true);
        Edge.due(repo.isAncestor(1, 2), false);
        Edge.due(repo.ahead(3, 0), 3);
    }

    static void term02_cleanAgainstTheEmptyTree() {
        StrataRepo repo = new StrataRepo();
        Edge.due(repo.isClean(), true);
        repo.create(0);
        Edge.due(repo.isClean(), false);
    }

    static void term02_notReachedAreSweptAndNoOthers() {
        StrataRepo repo = State.chain(5);
        repo.reset(3);
        Edge.due(repo.isReached(3), true);
        Edge.due(repo.isReached(4), false);
        Edge.due(repo.sweep(), 1);
        Edge.due(repo.isThere(3), true);
        Edge.due(repo.isThere(4), false);
    }

    static void term02_nothingIsToBeAskedOfGoneOnes() {
        Edge.refused(Edge.INDEX, State::swept, Edge.numbers(3, 4), (r, gone) -> r.isReached(gone));
        Edge.refused(Edge.INDEX, State::swept, r -> r.parent(4, false), r -> r.wordOf(4), r -> r.lines(4, 0),
                r -> r.lineAt(4, 0, 0), r -> r.isAncestor(4, 5), r -> r.isAncestor(0, 4), r -> r.isAncestor(4, 4),
                r -> r.base(4, 5), r -> r.base(5, 4), r -> r.ahead(4, 5), r -> r.ahead(5, 4), r -> r.touched(4, 5),
                r -> r.touched(5, 4), r -> r.added(4, 5, 0), r -> r.added(5, 4, 0), r -> r.pairOf(4, 5, 0, 0),
                r -> r.pairOf(5, 4, 0, 0), r -> r.blame(4, 0, 0), r -> r.depthOf(4), r -> r.seek(0, 4),
                r -> r.seek(4, 5), r -> r.wouldConflict(4), r -> r.carry(4), r -> r.takeBack(4), r -> r.reset(4));
    }

    static void term02_ancestorsOfWhatIsNotGoneNeverAre() {
        StrataRepo repo = fork(NONE, NONE, NONE);
        repo.merge(0);
        repo.drop(0);
        Edge.due(repo.sweep(), 0);
        repo.reset(2);
        Edge.due(repo.sweep(), 2);
        Edge.due(repo.isThere(0), true);
        Edge.due(repo.isThere(1), false);
        Edge.due(repo.isThere(2), true);
        Edge.due(repo.isThere(3), false);
    }

    // ---- term 3: matches

    /** The places with which the lines of a are paired, and how many of b are ADDED. */
    private static String match(int[] a, int[] b) {
        StrataRepo repo = State.desk(0);
        set(repo, a);
        repo.commit(1);
        set(repo, b);
        repo.create(5);
        repo.commit(2);
        StringBuilder text = new StringBuilder();
        int size = a == NONE ? 0 : a.length;
        for (int place = 0; place < size; place++) {
            text.append(repo.pairOf(0, 1, 3, place)).append(' ');
        }
        return text.append('+').append(repo.added(0, 1, 3)).toString();
    }

    static void term03_bothRowsEmpty() {
        Edge.due(match(EMPTY, EMPTY), "+0");
        Edge.due(match(NONE, NONE), "+0");
        Edge.due(match(NONE, EMPTY), "+0");
        Edge.due(match(EMPTY, NONE), "+0");
    }

    static void term03_oneRowEmpty() {
        Edge.due(match(EMPTY, lines(1)), "+1");
        Edge.due(match(EMPTY, lines(1, 2, 3)), "+3");
        Edge.due(match(NONE, lines(1, 2)), "+2");
        Edge.due(match(lines(1), EMPTY), "-1 +0");
        Edge.due(match(lines(1, 2, 3), EMPTY), "-1 -1 -1 +0");
        Edge.due(match(lines(1, 2), NONE), "-1 -1 +0");
    }

    static void term03_oneLineEach() {
        Edge.due(match(lines(0), lines(0)), "0 +0");
        Edge.due(match(lines(0), lines(999)), "-1 +1");
    }

    static void term03_iGoesOnIfAsLongEitherWay() {
        Edge.due(match(lines(1, 2), lines(2, 1)), "-1 0 +1");
        Edge.due(match(lines(2, 1), lines(1, 2)), "-1 0 +1");
        Edge.due(match(lines(1, 2, 3), lines(3, 2, 1)), "-1 -1 0 +2");
        Edge.due(match(lines(1), lines(2)), "-1 +1");
    }

    static void term03_iGoesOnIfThatIsLonger() {
        Edge.due(match(lines(9, 1, 2), lines(1, 2)), "-1 0 1 +0");
        Edge.due(match(lines(9, 1, 2), lines(1, 2, 9)), "-1 0 1 +1");
    }

    static void term03_kGoesOnIfThatIsLonger() {
        Edge.due(match(lines(1, 2), lines(9, 1, 2)), "1 2 +1");
        Edge.due(match(lines(1, 2, 9), lines(9, 1, 2)), "1 2 -1 +1");
        Edge.due(match(lines(1, 2), lines(8, 9, 1, 2)), "2 3 +2");
    }

    static void term03_sameLinesArePairedAtOnce() {
        Edge.due(match(lines(1, 1), lines(1)), "0 -1 +0");
        Edge.due(match(lines(1), lines(1, 1)), "0 +1");
        Edge.due(match(lines(1, 2, 1), lines(1, 1)), "0 -1 1 +0");
        Edge.due(match(lines(2, 1, 1), lines(1)), "-1 0 -1 +0");
    }

    static void term03_fortyLinesAllTheSame() {
        StringBuilder want = new StringBuilder();
        for (int place = 0; place < 40; place++) {
            want.append(place).append(' ');
        }
        Edge.due(match(State.row(100, 40), State.row(100, 40)), want + "+0");
        Edge.due(match(new int[40], new int[40]), want + "+0");
    }

    static void term03_fortyLinesNoneTheSame() {
        Edge.due(match(State.row(100, 40), State.row(200, 40)), "-1 ".repeat(40) + "+40");
    }

    static void term03_fortyLinesFurtherByOne() {
        StringBuilder down = new StringBuilder("-1 ");
        StringBuilder up = new StringBuilder();
        for (int place = 0; place < 39; place++) {
            down.append(place).append(' ');
            up.append(place + 1).append(' ');
        }
        Edge.due(match(State.row(100, 40), State.row(101, 40)), down + "+1");
        Edge.due(match(State.row(101, 40), State.row(100, 40)), up + "-1 +1");
    }

    static void term03_theFortiethWithTheFirst() {
        int[] a = State.row(100, 40);
        int[] b = State.row(200, 40);
        b[0] = 139;
        Edge.due(match(a, b), "-1 ".repeat(39) + "0 +39");
        Edge.due(match(b, a), "39 " + "-1 ".repeat(39) + "+39");
    }

    static void term03_theFortiethsAlone() {
        int[] a = State.row(100, 40);
        int[] b = State.row(200, 40);
        b[39] = 139;
        Edge.due(match(a, b), "-1 ".repeat(39) + "39 +39");
    }

    static void term03_linesThatComeAgain() {
        Edge.due(match(lines(1, 2, 1, 2), lines(2, 1)), "-1 0 1 -1 +0");
        Edge.due(match(lines(2, 1), lines(1, 2, 1)), "1 2 +1");
        Edge.due(match(lines(1, 2, 1), lines(3, 1, 3, 2)), "1 3 -1 +2");
        // L(1, 0) is 4, by 4 3 4 5, and so is L(0, 1), by 3 3 4 5: so the 3 at the top is REMOVED.
        Edge.due(match(lines(3, 4, 3, 4, 5, 3), lines(4, 5, 3, 3, 4, 5)), "-1 0 2 4 5 -1 +2");
    }

    /** L(i, k) as the document tells it. */
    private static int longest(int[] a, int[] b, int i, int k) {
        if (i == a.length || k == b.length) {
            return 0;
        }
        int without = Math.max(longest(a, b, i + 1, k), longest(a, b, i, k + 1));
        return a[i] == b[k] ? Math.max(without, 1 + longest(a, b, i + 1, k + 1)) : without;
    }

    /** As match(), as the document tells it. */
    private static String told(int[] a, int[] b) {
        int[] places = new int[a.length];
        java.util.Arrays.fill(places, -1);
        int added = b.length;
        int i = 0;
        int k = 0;
        while (i < a.length && k < b.length) {
            if (a[i] == b[k]) {
                places[i++] = k++;
                added--;
            } else if (longest(a, b, i + 1, k) >= longest(a, b, i, k + 1)) {
                i++;
            } else {
                k++;
            }
        }
        StringBuilder text = new StringBuilder();
        for (int place : places) {
            text.append(place).append(' ');
        }
        return text.append('+').append(added).toString();
    }

    /** Each row of up to four lines that are 1 or 2: a number from 1 to 31 tells it, digit by digit. */
    private static int[] shortRow(int number) {
        int size = Integer.SIZE - Integer.numberOfLeadingZeros(number) - 1;
        int[] row = new int[size];
        for (int n = 0; n < size; n++) {
            row[n] = 1 + (number >> n & 1);
        }
        return row;
    }

    static void term03_allShortRows() {
        for (int one = 1; one < 32; one++) {
            int[] a = shortRow(one);
            StrataRepo repo = State.desk(0, a);
            State.put(repo, 5, 0);
            repo.commit(0);
            // The long ones go first, so that nothing that they leave may stand in the way of the short ones.
            for (int other = 31; other > 0; other--) {
                int[] b = shortRow(other);
                State.change(repo, 0, b);
                repo.replace(5, 0, other);
                int commit = repo.commit(other);
                StringBuilder text = new StringBuilder();
                for (int place = 0; place < a.length; place++) {
                    text.append(repo.pairOf(0, commit, 0, place)).append(' ');
                }
                Edge.due(text.append('+').append(repo.added(0, commit, 0)).toString(), told(a, b));
                Edge.due(told(b, a).endsWith("+" + repo.added(commit, 0, 0)), true);
            }
        }
    }

    static void term03_behindAnotherMatch() {
        StrataRepo repo = State.desk(0, State.row(100, 40));
        repo.commit(1);
        State.change(repo, 0, State.row(101, 40));
        repo.commit(2);
        State.change(repo, 0, 1, 2);
        repo.commit(3);
        State.change(repo, 0, 2, 1);
        repo.commit(4);
        Edge.due(repo.added(0, 1, 0), 1);
        Edge.due(repo.pairOf(2, 3, 0, 0), -1);
        Edge.due(repo.pairOf(2, 3, 0, 1), 0);
        Edge.due(repo.added(2, 3, 0), 1);
        Edge.due(repo.added(1, 1, 0), 0);
        Edge.due(repo.added(3, 2, 0), 1);
        Edge.due(repo.pairOf(3, 2, 0, 0), -1);
        Edge.due(repo.pairOf(3, 2, 0, 1), 0);
    }

    // ---- term 4: merging

    static void term04_baseHasNoneAndOursOrTheirsHasNone() {
        Edge.due(merged(NONE, NONE, NONE), "none");
        Edge.due(merged(NONE, EMPTY, NONE), "");
        Edge.due(merged(NONE, NONE, EMPTY), "");
        Edge.due(merged(NONE, lines(1, 2), NONE), "1 2");
        Edge.due(merged(NONE, NONE, lines(1, 2)), "1 2");
        Edge.due(merged(NONE, State.row(0, 40), NONE), State.desk(State.desk(3, State.row(0, 40)), 3));
    }

    static void term04_baseHasOneAndBothHaveNone() {
        Edge.due(merged(EMPTY, NONE, NONE), "none");
        Edge.due(merged(lines(1, 2), NONE, NONE), "none");
    }

    static void term04_oneHasNoneAndTheOtherTheLinesOfTheBase() {
        Edge.due(merged(EMPTY, NONE, EMPTY), "none");
        Edge.due(merged(EMPTY, EMPTY, NONE), "none");
        Edge.due(merged(lines(1), NONE, lines(1)), "none");
        Edge.due(merged(lines(1), lines(1), NONE), "none");
        Edge.due(merged(State.row(0, 40), State.row(0, 40), NONE), "none");
    }

    static void term04_oneHasNoneAndTheOtherOtherLines() {
        Edge.due(settled(lines(1), NONE, lines(2)), "none/2/2/1");
        Edge.due(settled(lines(1), lines(2), NONE), "2/none/2/1");
        Edge.due(settled(lines(1, 2), NONE, lines(1)), "none/1/1/1 2");
        Edge.due(settled(lines(1, 2), lines(1, 2, 3), NONE), "1 2 3/none/1 2 3/1 2");
    }

    static void term04_oneHasNoneAndTheOtherNoLines() {
        Edge.due(settled(lines(1), NONE, EMPTY), "none///1");
        Edge.due(settled(lines(1), EMPTY, NONE), "/none//1");
    }

    static void term04_oneHasNoneAndTheBaseNoLines() {
        Edge.due(settled(EMPTY, NONE, lines(1)), "none/1/1/");
        Edge.due(settled(EMPTY, lines(1), NONE), "1/none/1/");
    }

    static void term04_bothHaveOneAndTheBaseNone() {
        Edge.due(merged(NONE, EMPTY, EMPTY), "");
        Edge.due(merged(NONE, lines(1), EMPTY), "1");
        Edge.due(merged(NONE, EMPTY, lines(1)), "1");
        Edge.due(merged(NONE, lines(1), lines(1)), "1");
        Edge.due(settled(NONE, lines(1), lines(2)), "1/2/1 2/");
        Edge.due(settled(NONE, lines(1, 3), lines(1, 2)), "1 3/1 2/1 3 1 2/");
    }

    static void term04_bothHaveOneAndTheBaseNoLines() {
        Edge.due(merged(EMPTY, EMPTY, EMPTY), "");
        Edge.due(merged(EMPTY, lines(1), EMPTY), "1");
        Edge.due(merged(EMPTY, EMPTY, lines(1)), "1");
        Edge.due(merged(EMPTY, lines(1), lines(1)), "1");
        Edge.due(settled(EMPTY, lines(1), lines(2)), "1/2/1 2/");
    }

    static void term04_nothingIsHeld() {
        Edge.due(merged(lines(1), EMPTY, EMPTY), "");
        Edge.due(merged(lines(1), lines(2), lines(2)), "2");
        Edge.due(settled(lines(1), EMPTY, lines(2)), "/2/2/1");
        Edge.due(settled(lines(1), lines(2), lines(3)), "2/3/2 3/1");
        Edge.due(settled(lines(1, 2), lines(3), lines(4, 5)), "3/4 5/3 4 5/1 2");
    }

    static void term04_onlyLineIsHeld() {
        Edge.due(merged(lines(1), lines(1), lines(1)), "1");
        Edge.due(merged(lines(1), lines(2, 1), lines(1, 3)), "2 1 3");
        Edge.due(merged(lines(1), lines(1, 3), lines(2, 1)), "2 1 3");
    }

    static void term04_heldInOursAloneIsNotHeld() {
        Edge.due(merged(lines(1), lines(1), lines(2)), "2");
        Edge.due(merged(lines(1), lines(1), EMPTY), "");
        Edge.due(settled(lines(1, 2, 3), lines(9, 2, 3), lines(8, 3)), "9 2 3/8 3/9 2 8 3/1 2 3");
    }

    static void term04_heldInTheirsAloneIsNotHeld() {
        Edge.due(merged(lines(1), lines(2), lines(1)), "2");
        Edge.due(merged(lines(1), EMPTY, lines(1)), "");
        Edge.due(settled(lines(1, 2, 3), lines(8, 3), lines(9, 2, 3)), "8 3/9 2 3/8 9 2 3/1 2 3");
    }

    static void term04_pieceAheadOfTheFirst() {
        Edge.due(merged(lines(1, 2), lines(2), lines(1, 2)), "2");
        Edge.due(merged(lines(1, 2), lines(1, 2), lines(3, 2)), "3 2");
        Edge.due(merged(lines(1, 2), lines(3, 2), lines(3, 2)), "3 2");
        Edge.due(settled(lines(1, 2), lines(2), lines(3, 2)), "2/3 2/3 2/1 2");
        Edge.due(settled(lines(2), lines(3, 2), lines(4, 2)), "3 2/4 2/3 4 2/2");
    }

    static void term04_pieceBetweenTwo() {
        Edge.due(merged(lines(1, 2), lines(1, 3, 2), lines(1, 2)), "1 3 2");
        Edge.due(merged(lines(1, 2), lines(1, 2), lines(1, 4, 2)), "1 4 2");
        Edge.due(merged(lines(1, 2), lines(1, 3, 2), lines(1, 3, 2)), "1 3 2");
        Edge.due(settled(lines(1, 2), lines(1, 3, 2), lines(1, 4, 5, 2)), "1 3 2/1 4 5 2/1 3 4 5 2/1 2");
        Edge.due(settled(lines(1, 9, 2), lines(1, 2), lines(1, 4, 2)), "1 2/1 4 2/1 4 2/1 9 2");
    }

    static void term04_pieceBehindTheLast() {
        Edge.due(merged(lines(1, 2), lines(1), lines(1, 2)), "1");
        Edge.due(merged(lines(1, 2), lines(1, 2), lines(1, 3)), "1 3");
        Edge.due(merged(lines(1), lines(1, 3), lines(1, 3)), "1 3");
        Edge.due(settled(lines(1, 2), lines(1), lines(1, 3)), "1/1 3/1 3/1 2");
        Edge.due(settled(lines(1), lines(1, 3), lines(1, 4)), "1 3/1 4/1 3 4/1");
    }

    static void term04_allThreePiecesOfOneLine() {
        StrataRepo repo = fork(lines(1, 9, 2), lines(3, 1, 4, 2, 5), lines(6, 1, 7, 2, 8));
        Edge.due(repo.merge(0), 3);
        Edge.due(repo.conflicts(), 3);
        Edge.due(State.piece(repo, 0, 0) + "/" + State.piece(repo, 0, 1) + "/" + State.piece(repo, 0, 2), "3/6/");
        Edge.due(State.piece(repo, 1, 0) + "/" + State.piece(repo, 1, 1) + "/" + State.piece(repo, 1, 2), "4/7/9");
        Edge.due(State.piece(repo, 2, 0) + "/" + State.piece(repo, 2, 1) + "/" + State.piece(repo, 2, 2), "5/8/");
        repo.settle(0, 1);
        repo.settle(1, 3);
        repo.settle(2, 2);
        repo.goOn();
        Edge.due(State.desk(repo, 3), "6 1 9 2 5 8");
    }

    static void term04_numbersByNamesThenFromTheTop() {
        StrataRepo repo = State.desk(0, 1);
        State.put(repo, 3, 1, 2);
        State.put(repo, 7, 1);
        repo.commit(10);
        repo.branch(1);
        repo.replace(7, 0, 20);
        State.change(repo, 3, 21, 1, 22, 2, 23);
        repo.replace(0, 0, 24);
        repo.commit(20);
        repo.go(1);
        State.change(repo, 3, 31, 1, 32, 2, 33);
        repo.delete(7);
        repo.replace(0, 0, 34);
        repo.commit(30);
        Edge.due(repo.merge(0), 3);
        Edge.due(repo.conflicts(), 5);
        int[] files = {0, 3, 3, 3, 7};
        int[] theirs = {24, 21, 22, 23, 20};
        for (int conflict = 0; conflict < 5; conflict++) {
            Edge.due(repo.conflictFile(conflict), files[conflict]);
            Edge.due(repo.pieceLine(conflict, 1, 0), theirs[conflict]);
        }
    }

    /** 23 lines are HELD, with 24 pieces ahead of, between and behind them: of ours, theirs and the base two have one line. */
    private static int[] between(int side) {
        int[] row = new int[39];
        int size = 0;
        for (int n = 0; n < 24; n++) {
            if (n % 3 != side) {
                row[size] = 100 * (side + 1) + n;
                size++;
            }
            if (n < 23) {
                row[size] = n;
                size++;
            }
        }
        return row;
    }

    static void term04_asManyConflictsAsAFileCanHave() {
        StrataRepo repo = fork(between(2), between(0), between(1));
        Edge.due(repo.merge(0), 3);
        Edge.due(repo.conflicts(), 24);
        for (int conflict = 0; conflict < 24; conflict++) {
            for (int side = 0; side < 3; side++) {
                Edge.due(repo.pieceSize(conflict, side), conflict % 3 == side ? 0 : 1);
            }
            Edge.due(repo.settle(conflict, conflict % 3 == 1 ? 0 : 1), 23 - conflict);
        }
        repo.goOn();
        // Ours has nothing for 0, theirs nothing for 1, the base nothing for 2: so a line for each.
        Edge.due(repo.deskLines(3), 40);
        Edge.due(repo.deskLine(3, 0), 200);
        Edge.due(repo.deskLine(3, 1), 0);
        Edge.due(repo.deskLine(3, 2), 101);
        Edge.due(repo.deskLine(3, 4), 202);
        Edge.due(repo.deskLine(3, 39), 19);
    }

    static void term04_fortyLinesAllHeld() {
        StrataRepo repo = fork(State.row(0, 40), State.row(0, 40), State.row(0, 40));
        Edge.due(repo.merge(0), 2);
        Edge.due(repo.touched(2, 3), 1);
        Edge.due(repo.lines(3, 3), 40);
        Edge.due(repo.lineAt(3, 3, 39), 39);
    }

    /** A merge of all eight files, each with forty lines, that is as ours; carried over, each line of each file is HELD. */
    static void term04_fortyLinesOfEachFileHeld() {
        StrataRepo repo = new StrataRepo();
        for (int file = 0; file < 8; file++) {
            State.put(repo, file, State.row(100 * file, 40));
        }
        repo.commit(10);
        repo.branch(1);
        repo.replace(7, 39, 901);
        repo.commit(20);
        repo.go(1);
        repo.replace(7, 39, 901);
        repo.commit(30);
        Edge.due(repo.merge(0), 2);
        Edge.due(repo.carry(3), 0);
        Edge.due(repo.takeBack(3), 0);
        Edge.due(repo.touched(2, 3), 0);
        Edge.due(repo.lineAt(3, 7, 39), 901);
    }

    static void term04_behindALongerMerge() {
        StrataRepo repo = State.desk(7, 1, 2, 3);
        repo.commit(10);
        repo.branch(1);
        repo.insert(7, 1, 4);
        repo.commit(20);
        repo.go(1);
        repo.insert(7, 1, 5);
        repo.commit(30);
        Edge.due(repo.wouldConflict(1), 1);
        repo.delete(7);
        repo.create(0);
        repo.commit(40);
        Edge.due(repo.wouldConflict(3), 0);
        Edge.due(repo.wouldConflict(1), 1);
        Edge.due(repo.wouldConflict(2), 1);
    }

    static void term04_justForty() {
        StrataRepo repo = fork(State.row(100, 38), State.row(99, 39), State.row(100, 39));
        Edge.due(repo.merge(0), 2);
        Edge.due(repo.lines(3, 3), 40);
        Edge.due(repo.lineAt(3, 3, 0), 99);
        Edge.due(repo.lineAt(3, 3, 39), 138);
    }

    static void term04_fortyOneHasTheFirstForty() {
        StrataRepo repo = fork(State.row(100, 39), State.row(99, 40), State.row(100, 40));
        Edge.due(repo.merge(0), 2);
        Edge.due(repo.lines(3, 3), 40);
        Edge.due(repo.lineAt(3, 3, 0), 99);
        Edge.due(repo.lineAt(3, 3, 39), 138);
        Edge.due(repo.added(2, 3, 3), 0);
    }

    static void term04_heldLineBehindTheFortieth() {
        StrataRepo repo = fork(State.row(100, 40), State.row(99, 40), State.row(100, 40));
        // Ours has a line more ahead, and the last line not: it is not HELD, and taken out.
        Edge.due(repo.merge(0), 2);
        Edge.due(repo.lineAt(3, 3, 39), 138);
        int[] theirs = State.row(100, 40);
        theirs[38] = 500;
        int[] ours = State.row(100, 40);
        System.arraycopy(State.row(100, 38), 0, ours, 1, 38);
        ours[0] = 99;
        ours[39] = 139;
        StrataRepo held = fork(State.row(100, 40), ours, theirs);
        // 139 is HELD and has the place 40 behind 99, 100 to 137 and what way 2 puts there.
        Edge.due(held.merge(0), 3);
        Edge.due(State.piece(held, 0, 0) + "/" + State.piece(held, 0, 1) + "/" + State.piece(held, 0, 2), "/500/138");
        held.settle(0, 2);
        held.goOn();
        Edge.due(held.lines(3, 3), 40);
        Edge.due(held.lineAt(3, 3, 38), 137);
        Edge.due(held.lineAt(3, 3, 39), 500);
    }

    static void term04_bothOfAConflictInMoreThanForty() {
        StrataRepo repo = fork(EMPTY, State.row(100, 20), State.row(200, 20));
        repo.merge(0);
        repo.settle(0, 2);
        repo.goOn();
        Edge.due(repo.deskLines(3), 40);
        Edge.due(repo.deskLine(3, 39), 219);
        repo = fork(EMPTY, State.row(100, 21), State.row(200, 20));
        repo.merge(0);
        repo.settle(0, 2);
        repo.goOn();
        Edge.due(repo.deskLines(3), 40);
        Edge.due(repo.deskLine(3, 20), 120);
        Edge.due(repo.deskLine(3, 39), 218);
        repo = fork(EMPTY, State.row(100, 40), State.row(200, 40));
        repo.merge(0);
        repo.settle(0, 2);
        repo.goOn();
        Edge.due(repo.deskLines(3), 40);
        Edge.due(repo.deskLine(3, 39), 139);
    }

    // ---- term 5: bases

    static void term05_ofACommitAndItself() {
        StrataRepo repo = State.full();
        Edge.due(repo.base(0, 0), 0);
        Edge.due(repo.base(59, 59), 59);
    }

    static void term05_ofACommitAndItsAncestor() {
        StrataRepo repo = State.full();
        Edge.due(repo.base(0, 59), 0);
        Edge.due(repo.base(59, 0), 0);
        Edge.due(repo.base(57, 59), 57);
        Edge.due(repo.base(58, 59), 57);
    }

    static void term05_thereIsAlwaysOne() {
        // All commits are behind the first one: the HEAD is at none but at first.
        StrataRepo repo = State.ready();
        for (int commit = 0; commit < 6; commit++) {
            Edge.due(repo.base(0, commit), 0);
        }
        Edge.due(repo.base(2, 5), 0);
    }

    /** 3 is 2 merged with 1, and 4 is 1 merged with 2; 5 is behind 4, without the line 0, and 6 behind 3. */
    private static StrataRepo crossed() {
        StrataRepo repo = State.desk(0, 1, 2, 3);
        repo.commit(10);
        repo.branch(1);
        repo.insert(0, 3, 4);
        repo.commit(20);
        repo.branch(2);
        repo.go(1);
        repo.insert(0, 0, 0);
        repo.commit(30);
        repo.branch(3);
        repo.merge(2);
        repo.go(0);
        repo.merge(3);
        repo.erase(0, 0);
        repo.commit(40);
        repo.go(1);
        repo.create(7);
        repo.commit(50);
        return repo;
    }

    static void term05_greatestNumberOfSeveral() {
        StrataRepo repo = crossed();
        Edge.due(repo.base(3, 4), 2);
        Edge.due(repo.base(4, 3), 2);
        Edge.due(repo.base(5, 6), 2);
        Edge.due(repo.base(1, 6), 1);
        Edge.due(repo.base(1, 2), 0);
    }

    static void term05_mergeIsByTheBase() {
        StrataRepo repo = crossed();
        Edge.due(repo.merge(0), 2);
        // By the base 2 (0 1 2 3) the line 0 is taken out; by 1 (1 2 3 4) it would be put in.
        Edge.due(State.desk(repo, 0), "1 2 3 4");
    }

    // ---- term 6: carrying, taking back, WORK that is PENDING

    static void term06_carriedWithoutParentByTheEmptyTree() {
        StrataRepo repo = State.chain(2);
        Edge.due(repo.wouldConflict(0), 1);
        Edge.due(repo.carry(0), 3);
        Edge.due(State.piece(repo, 0, 0) + "/" + State.piece(repo, 0, 1) + "/" + State.piece(repo, 0, 2), "1/0/");
    }

    static void term06_takenBackWithoutParentToTheEmptyTree() {
        StrataRepo repo = State.chain(2);
        Edge.due(repo.takeBack(0), 3);
        Edge.due(State.piece(repo, 0, 0) + "/" + State.piece(repo, 0, 1) + "/" + State.piece(repo, 0, 2), "1/none/0");
    }

    static void term06_noCommitIfTheResultIsAsOurs() {
        StrataRepo repo = State.full();
        repo.reset(57);
        repo.go(0);
        Edge.due(repo.commits(), 60);
        StrataRepo other = State.ready();
        Edge.due(other.carry(4), 0);
        Edge.due(other.takeBack(1), 3);
        other.settle(0, 0);
        other.settle(1, 0);
        Edge.due(other.goOn(), 0);
        Edge.due(other.commits(), 6);
    }

    static void term06_commitThoughOnlyAFileWithoutLinesIsOther() {
        StrataRepo repo = State.chain(1);
        repo.create(7);
        repo.commit(1);
        Edge.due(repo.takeBack(1), 2);
        Edge.due(repo.deskLines(7), -1);
        Edge.due(repo.carry(1), 2);
        Edge.due(repo.deskLines(7), 0);
        Edge.due(repo.commits(), 4);
    }

    static void term06_deskIsCleanMeanwhile() {
        for (int kind = 1; kind <= 4; kind++) {
            StrataRepo repo = State.busy(kind);
            Edge.due(repo.isClean(), true);
            Edge.due(State.desk(repo, 0), kind == 4 ? "4 2 5" : "8 2 9");
        }
    }

    static void term06_whatChangesIsRefusedMeanwhile() {
        for (int kind = 1; kind <= 4; kind++) {
            int work = kind;
            Edge.refused(Edge.STATE, () -> State.busy(work), r -> r.create(7), r -> r.delete(0), r -> r.insert(0, 0, 1),
                    r -> r.erase(0, 0), r -> r.replace(0, 0, 1), r -> r.discard(), r -> r.commit(1), r -> r.branch(7),
                    r -> r.go(0), r -> r.drop(0), r -> r.reset(0), r -> r.sweep(), r -> r.merge(0), r -> r.carry(1),
                    r -> r.takeBack(1), r -> r.replay(0));
        }
    }

    static void term06_oneCanAskMeanwhile() {
        for (int kind = 1; kind <= 4; kind++) {
            StrataRepo repo = State.busy(kind);
            StrataRepo idle = State.ready();
            Edge.due(repo.commits(), 6);
            for (int a = 0; a < 6; a++) {
                Edge.due(repo.wordOf(a), idle.wordOf(a));
                Edge.due(repo.depthOf(a), idle.depthOf(a));
                Edge.due(repo.blame(a, 0, 1), idle.blame(a, 0, 1));
                for (int b = 0; b < 6; b++) {
                    Edge.due(repo.base(a, b), idle.base(a, b));
                    Edge.due(repo.added(a, b, 0), idle.added(a, b, 0));
                    Edge.due(repo.pairOf(a, b, 0, 2), idle.pairOf(a, b, 0, 2));
                }
            }
            Edge.due(Tail.GO_ON.of(repo), Tail.GO_ON.of(State.busy(kind)));
        }
    }

    static void term06_oneCanSearchMeanwhile() {
        for (int kind = 1; kind <= 4; kind++) {
            StrataRepo repo = State.busy(kind);
            Edge.due(repo.seek(0, 2), 2);
            Edge.due(repo.probe(), 1);
            Edge.due(repo.tell(false), 1);
            Edge.due(repo.culprit(), 2);
            Edge.due(repo.unsettled(), 1);
            Edge.due(repo.giveUp(), 1);
            Edge.due(repo.culprit(), 2);
        }
    }

    static void term06_deskIsWhatTheCommitHasThen() {
        for (int kind = 1; kind <= 4; kind++) {
            StrataRepo repo = State.busy(kind);
            for (int round = 0; round < 3 && repo.pending() != 0; round++) {
                for (int conflict = 0; conflict < repo.conflicts(); conflict++) {
                    repo.settle(conflict, 2);
                }
                repo.goOn();
                Edge.due(repo.isClean(), true);
                Edge.due(State.desk(repo, 0), State.lines(repo, repo.commitOf(1), 0));
            }
            Edge.due(repo.pending(), 0);
        }
    }

    public static void main(String[] arguments) {
        Edge.run(TermEdgeTest.class);
    }
}
