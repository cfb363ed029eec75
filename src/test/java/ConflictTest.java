/** Point 4 of the terms, by merge() (promise 14), and promises 25 to 27: pieces and whole files. */
public final class ConflictTest {
    private static final int MIN = Integer.MIN_VALUE;
    private static final int MAX = Integer.MAX_VALUE;
    private static final int[] NO_FILE = null;

    private static void put(StrataRepo repo, int file, int[] lines) {
        if (lines != null) {
            Make.file(repo, file, lines);
        } else if (repo.deskLines(file) >= 0) {
            repo.delete(file);
        }
    }

    /** As Make.fork(), of file 3, which may be missing; file 7 makes each commit another one. */
    private static StrataRepo fork(int[] base, int[] theirs, int[] ours) {
        StrataRepo repo = new StrataRepo();
        Make.file(repo, 7, 1, 2, 3);
        put(repo, 3, base);
        repo.commit(1);
        repo.branch(1);
        put(repo, 3, theirs);
        Make.file(repo, 7, 1, 2, 3, 4);
        repo.commit(2);
        repo.go(1);
        put(repo, 3, ours);
        Make.file(repo, 7, 0, 1, 2, 3);
        repo.commit(3);
        return repo;
    }

    private static void merged(String what, int[] base, int[] theirs, int[] ours, String want) {
        StrataRepo repo = fork(base, theirs, ours);
        Check.due(14, what + ": merge(0)", repo.merge(0), 2);
        Check.due(14, what + ": file 3", Make.desk(repo, 3), want);
        Check.due(14, what + ": file 7", Make.desk(repo, 7), "0 1 2 3 4");
    }

    /** One CONFLICT, settled by each way. */
    private static void settled(String what, int[] base, int[] theirs, int[] ours, String... wants) {
        for (int way = 0; way < 4; way++) {
            StrataRepo repo = fork(base, theirs, ours);
            Check.due(14, what + ": merge(0)", repo.merge(0), 3);
            Check.due(22, what + ": conflicts()", repo.conflicts(), 1);
            Check.due(25, what + ": conflictFile(0)", repo.conflictFile(0), 3);
            repo.settle(0, way);
            Check.due(19, what + ": goOn()", repo.goOn(), 2);
            Check.due(19, what + ", way " + way + ": file 3", Make.desk(repo, 3), wants[way]);
            Check.due(19, what + ", way " + way + ": file 7", Make.desk(repo, 7), "0 1 2 3 4");
        }
    }

    private static void wholeFiles() {
        merged("only ours has it", NO_FILE, NO_FILE, new int[] {5}, "5");
        merged("only theirs has it", NO_FILE, new int[] {6, 7}, NO_FILE, "6 7");
        merged("only ours has it, no lines", NO_FILE, NO_FILE, new int[] {}, "");
        merged("none has it", NO_FILE, NO_FILE, NO_FILE, "none");
        merged("both took it away", new int[] {1}, NO_FILE, NO_FILE, "none");
        merged("ours took it away, theirs as base", new int[] {1, 2}, new int[] {1, 2}, NO_FILE, "none");
        merged("theirs took it away, ours as base", new int[] {1, 2}, NO_FILE, new int[] {1, 2}, "none");
        merged("ours took it away, no lines", new int[] {}, new int[] {}, NO_FILE, "none");
        settled("ours took it away, theirs other", new int[] {1, 2}, new int[] {1, 3}, NO_FILE,
                "none", "1 3", "1 3", "1 2");
        settled("theirs took it away, ours other", new int[] {1, 2}, NO_FILE, new int[] {1, 2, 2},
                "1 2 2", "none", "1 2 2", "1 2");
        settled("theirs took it away, ours emptied it", new int[] {1}, NO_FILE, new int[] {},
                "", "none", "", "1");
        settled("ours took it away, theirs filled it", new int[] {}, new int[] {9}, NO_FILE,
                "none", "9", "9", "");
    }

    private static void newFiles() {
        merged("both made the same", NO_FILE, new int[] {1, 2}, new int[] {1, 2}, "1 2");
        merged("both made it, ours without lines", NO_FILE, new int[] {1, 2}, new int[] {}, "1 2");
        merged("both made it, theirs without lines", NO_FILE, new int[] {}, new int[] {3}, "3");
        merged("both made it without lines", NO_FILE, new int[] {}, new int[] {}, "");
        settled("both made it, other", NO_FILE, new int[] {1, 2}, new int[] {1, 3}, "1 3", "1 2", "1 3 1 2", "");
        StrataRepo repo = fork(NO_FILE, new int[] {1, 2}, new int[] {1, 3, 4});
        repo.merge(0);
        Check.due(26, "pieceSize(0, 0), no base", repo.pieceSize(0, 0), 3);
        Check.due(26, "pieceSize(0, 1), no base", repo.pieceSize(0, 1), 2);
        Check.due(26, "pieceSize(0, 2), no base", repo.pieceSize(0, 2), 0);
    }

    private static void pieces() {
        merged("nothing other", new int[] {1, 2}, new int[] {1, 2}, new int[] {1, 2}, "1 2");
        merged("ours as base", new int[] {1, 2, 3}, new int[] {1, 9, 3}, new int[] {1, 2, 3}, "1 9 3");
        merged("theirs as base", new int[] {1, 2, 3}, new int[] {1, 2, 3}, new int[] {1, 8, 3}, "1 8 3");
        merged("both the same", new int[] {1, 2, 3}, new int[] {1, 9, 3}, new int[] {1, 9, 3}, "1 9 3");
        merged("ahead and behind", new int[] {1, 2, 3}, new int[] {1, 2, 3, 9}, new int[] {8, 1, 2, 3}, "8 1 2 3 9");
        merged("taken out by both", new int[] {1, 2, 3}, new int[] {1, 3}, new int[] {1, 3}, "1 3");
        merged("taken out by each", new int[] {1, 2, 3, 4}, new int[] {1, 3, 4}, new int[] {1, 2, 3}, "1 3");
        settled("a line other", new int[] {1, 2, 3}, new int[] {1, 9, 3}, new int[] {1, 8, 3},
                "1 8 3", "1 9 3", "1 8 9 3", "1 2 3");
        settled("a line other, ours taken out", new int[] {1, 2, 3}, new int[] {1, 9, 3}, new int[] {1, 3},
                "1 3", "1 9 3", "1 9 3", "1 2 3");
        settled("nothing held", new int[] {1, 2}, new int[] {3}, new int[] {4, 5}, "4 5", "3", "4 5 3", "1 2");
        settled("two put in at the end", new int[] {1}, new int[] {1, 5, 6}, new int[] {1, 7},
                "1 7", "1 5 6", "1 7 5 6", "1");
        settled("no base lines", new int[] {}, new int[] {5}, new int[] {6}, "6", "5", "6 5", "");
        // 2 is paired with theirs alone, so it parts nothing.
        settled("held by one alone", new int[] {1, 2, 3}, new int[] {9, 2, 3}, new int[] {8, 3},
                "8 3", "9 2 3", "8 9 2 3", "1 2 3");
    }

    /** The match of the document pairs by its own rule; another longest match would merge otherwise. */
    private static void matches() {
        StrataRepo repo = new StrataRepo();
        Make.commit(repo, 1, 0, 1, 2, 1, 2);
        Make.commit(repo, 2, 0, 2, 1);
        Make.commit(repo, 3, 0, 1, 2, 1);
        Make.commit(repo, 4, 0, 3, 1, 3, 2);
        int[][] wants = {{-1, 0, 1, -1}, {1, 2}, {1, 3, -1}};
        for (int a = 0; a < wants.length; a++) {
            for (int place = 0; place < wants[a].length; place++) {
                Check.due(45, "pairOf(" + a + ", " + (a + 1) + ", 0, " + place + ")",
                        repo.pairOf(a, a + 1, 0, place), wants[a][place]);
            }
        }
    }

    /** A merge in four CONFLICTS, two of them in file 2. */
    private static StrataRepo four() {
        StrataRepo repo = new StrataRepo();
        Make.file(repo, 2, 1, 2, 3, 4, 5);
        Make.file(repo, 5, 7);
        Make.file(repo, 6, 7);
        repo.commit(1);
        repo.branch(1);
        Make.file(repo, 2, 10, 2, 3, 4, 11, 12);
        Make.file(repo, 5, 70);
        repo.delete(6);
        repo.commit(2);
        repo.go(1);
        Make.file(repo, 2, 20, 21, 2, 3, 4, 22);
        repo.delete(5);
        Make.file(repo, 6, 8, 9);
        repo.commit(3);
        Check.due(14, "merge(0)", repo.merge(0), 3);
        Check.due(22, "conflicts()", repo.conflicts(), 4);
        return repo;
    }

    private static void numbers() {
        int[] files = {2, 2, 5, 6};
        int[][] sizes = {{2, 1, 1}, {1, 2, 1}, {-1, 1, 1}, {2, -1, 1}};
        int[][][] lines = {{{20, 21}, {10}, {1}}, {{22}, {11, 12}, {5}}, {{}, {70}, {7}}, {{8, 9}, {}, {7}}};
        for (int n = 0; n < 4; n++) {
            StrataRepo repo = four();
            Check.due(25, "conflictFile(" + n + ")", repo.conflictFile(n), files[n]);
            for (int side = 0; side < 3; side++) {
                String what = "(" + n + ", " + side;
                Check.due(26, "pieceSize" + what + ")", repo.pieceSize(n, side), sizes[n][side]);
                for (int place = 0; place < lines[n][side].length; place++) {
                    Check.due(27, "pieceLine" + what + ", " + place + ")", repo.pieceLine(n, side, place),
                            lines[n][side][place]);
                }
                int conflict = n;
                int sideNow = side;
                for (int place : new int[] {-1, lines[n][side].length, 40, MIN, MAX}) {
                    Check.index(27, "pieceLine" + what + ", " + place + ")", repo,
                            () -> repo.pieceLine(conflict, sideNow, place));
                }
            }
            wrongSides(repo, n);
        }
        wrongConflicts(four());
        StrataRepo repo = four();
        repo.settle(0, 2);
        repo.settle(1, 0);
        repo.settle(2, 2);
        Check.due(18, "settle(3, 1)", repo.settle(3, 1), 0);
        Check.due(25, "conflictFile(1), settled", repo.conflictFile(1), 2);
        Check.due(19, "goOn()", repo.goOn(), 2);
        Check.due(19, "file 2", Make.desk(repo, 2), "20 21 10 2 3 4 22");
        Check.due(19, "file 5", Make.desk(repo, 5), "70");
        Check.due(19, "file 6", Make.desk(repo, 6), "none");
        Check.index(25, "conflictFile(0), done", repo, () -> repo.conflictFile(0));
        Check.index(26, "pieceSize(0, 0), done", repo, () -> repo.pieceSize(0, 0));
        Check.index(27, "pieceLine(0, 0, 0), done", repo, () -> repo.pieceLine(0, 0, 0));
    }

    private static void wrongSides(StrataRepo repo, int conflict) {
        for (int side : new int[] {-1, 3, MIN, MAX}) {
            Check.index(26, "pieceSize(" + conflict + ", " + side + ")", repo, () -> repo.pieceSize(conflict, side));
            Check.index(27, "pieceLine(" + conflict + ", " + side + ", 0)", repo,
                    () -> repo.pieceLine(conflict, side, 0));
        }
    }

    private static void wrongConflicts(StrataRepo repo) {
        for (int conflict : new int[] {-1, 4, 328, MIN, MAX}) {
            Check.index(25, "conflictFile(" + conflict + ")", repo, () -> repo.conflictFile(conflict));
            Check.index(26, "pieceSize(" + conflict + ", 0)", repo, () -> repo.pieceSize(conflict, 0));
            Check.index(27, "pieceLine(" + conflict + ", 0, 0)", repo, () -> repo.pieceLine(conflict, 0, 0));
        }
    }

    private static void longFiles() {
        int[] base = Make.row(100, 38);
        int[] ours = Make.row(98, 40);
        int[] theirs = Make.row(100, 40);
        StrataRepo repo = Make.fork(base, theirs, ours);
        Check.due(14, "merge(0), 42 lines", repo.merge(0), 2);
        Check.due(14, "lines(3, 0)", repo.lines(3, 0), 40);
        Check.due(14, "touched(2, 3), the first 40 are as ours", repo.touched(2, 3), 0);
        StrataRepo carried = Make.fork(base, theirs, ours);
        Check.due(15, "carry(1), the first 40 are as ours", carried.carry(1), 0);
        StrataRepo both = Make.fork(Make.row(0, 40), Make.row(100, 40), Make.row(200, 30));
        both.merge(0);
        Check.due(22, "conflicts()", both.conflicts(), 1);
        both.settle(0, 2);
        both.goOn();
        Check.due(19, "lines(3, 0)", both.lines(3, 0), 40);
        Check.due(19, "lineAt(3, 0, 29)", both.lineAt(3, 0, 29), 229);
        Check.due(19, "lineAt(3, 0, 30)", both.lineAt(3, 0, 30), 100);
        Check.due(19, "lineAt(3, 0, 39)", both.lineAt(3, 0, 39), 109);
    }

    /** Many CONFLICTS in files of 40 lines: held lines, and lines of two sides between. */
    private static void manyConflicts() {
        StrataRepo repo = new StrataRepo();
        for (int file = 5; file < 8; file++) {
            Make.file(repo, file, Make.row(100, 20));
        }
        repo.commit(1);
        repo.branch(1);
        for (int file = 5; file < 8; file++) {
            Make.file(repo, file, between(500));
        }
        repo.commit(2);
        repo.go(1);
        for (int file = 5; file < 8; file++) {
            Make.file(repo, file, between(600));
        }
        repo.commit(3);
        Check.due(14, "merge(0)", repo.merge(0), 3);
        Check.due(22, "conflicts()", repo.conflicts(), 60);
        Check.due(25, "conflictFile(59)", repo.conflictFile(59), 7);
        Check.due(27, "pieceLine(59, 1, 0)", repo.pieceLine(59, 1, 0), 519);
        for (int n = 0; n < 60; n++) {
            Check.due(18, "settle(" + n + ", " + n % 2 + ")", repo.settle(n, n % 2), 59 - n);
        }
        Check.due(19, "goOn()", repo.goOn(), 2);
        Check.due(19, "lines(3, 7)", repo.lines(3, 7), 40);
        Check.due(19, "lineAt(3, 7, 0)", repo.lineAt(3, 7, 0), 600);
        Check.due(19, "lineAt(3, 7, 2)", repo.lineAt(3, 7, 2), 501);
    }

    /** All lines of eight files of 40 are HELD but a few: no piece may be lost. */
    private static void manyPieces() {
        StrataRepo repo = new StrataRepo();
        for (int file = 0; file < 8; file++) {
            Make.file(repo, file, Make.row(100 * file, 40));
        }
        repo.commit(1);
        repo.branch(1);
        repo.replace(0, 0, 900);
        repo.commit(2);
        repo.go(1);
        repo.replace(7, 39, 901);
        repo.commit(3);
        Check.due(14, "merge(0)", repo.merge(0), 2);
        Check.due(43, "touched(2, 3)", repo.touched(2, 3), 1);
        Check.due(43, "touched(1, 3)", repo.touched(1, 3), 1);
        Check.due(14, "lineAt(3, 0, 0)", repo.lineAt(3, 0, 0), 900);
        Check.due(14, "lineAt(3, 7, 39)", repo.lineAt(3, 7, 39), 901);
    }

    /** A merge that is as ours: carried over, each line of each file is HELD. */
    private static void mostPieces() {
        StrataRepo repo = new StrataRepo();
        for (int file = 0; file < 8; file++) {
            Make.file(repo, file, Make.row(100 * file, 40));
        }
        repo.commit(1);
        repo.branch(1);
        repo.replace(7, 39, 901);
        repo.commit(2);
        repo.go(1);
        repo.replace(7, 39, 901);
        repo.commit(3);
        Check.due(14, "merge(0), as ours", repo.merge(0), 2);
        Check.due(15, "carry(3), as its first parent", repo.carry(3), 0);
        Check.due(16, "takeBack(3), as its first parent", repo.takeBack(3), 0);
        Check.due(43, "touched(2, 3)", repo.touched(2, 3), 0);
    }

    private static int[] between(int first) {
        int[] row = new int[40];
        for (int n = 0; n < 20; n++) {
            row[2 * n] = first + n;
            row[2 * n + 1] = 100 + n;
        }
        return row;
    }

    public static void main(String[] arguments) {
        wholeFiles();
        newFiles();
        pieces();
        matches();
        numbers();
        longFiles();
        manyConflicts();
        manyPieces();
        mostPieces();
        StrataRepo idle = Make.clash();
        Check.index(25, "conflictFile(0), nothing pending", idle, () -> idle.conflictFile(0));
        Check.index(26, "pieceSize(0, 0), nothing pending", idle, () -> idle.pieceSize(0, 0));
        Check.index(27, "pieceLine(0, 0, 0), nothing pending", idle, () -> idle.pieceLine(0, 0, 0));
        idle.wouldMerge(0);
        Check.due(22, "conflicts() behind wouldMerge()", idle.conflicts(), 0);
        Check.due(23, "unsettled() behind wouldMerge()", idle.unsettled(), 0);
        Check.index(25, "conflictFile(0) behind wouldMerge()", idle, () -> idle.conflictFile(0));
        Check.end();
    }
}
