/** Promises 52 to 55: what would be. */
public final class WouldTest {
    private static void wouldMerge() {
        StrataRepo repo = Make.fork(new int[] {1, 2, 3}, new int[] {1, 2, 3, 4}, new int[] {0, 1, 2, 3});
        String before = Look.at(repo);
        Check.due(52, "wouldMerge(1), itself", repo.wouldMerge(1), 0);
        Check.due(52, "wouldMerge(0)", repo.wouldMerge(0), 2);
        Check.due(52, "nothing is changed", Look.at(repo).equals(before), true);
        StrataRepo clash = Make.clash();
        before = Look.at(clash);
        Check.due(52, "wouldMerge(0), a conflict", clash.wouldMerge(0), 3);
        Check.due(52, "nothing is changed", Look.at(clash).equals(before), true);
        clash.merge(0);
        clash.settle(0, 0);
        clash.goOn();
        Check.due(52, "wouldMerge(0), merged", clash.wouldMerge(0), 0);
        clash.go(0);
        before = Look.at(clash);
        Check.due(52, "wouldMerge(1), ahead", clash.wouldMerge(1), 1);
        Check.due(52, "nothing is changed", Look.at(clash).equals(before), true);
        for (int branch : new int[] {-1, 2, 8, Integer.MIN_VALUE, Integer.MAX_VALUE}) {
            Check.index(52, "wouldMerge(" + branch + ")", clash, () -> clash.wouldMerge(branch));
        }
        clash.create(4);
        Check.state(52, "wouldMerge(1), not clean", clash, () -> clash.wouldMerge(1));
        Check.index(52, "wouldMerge(2), not clean", clash, () -> clash.wouldMerge(2));
        StrataRepo empty = new StrataRepo();
        Check.state(52, "wouldMerge(0), at no commit", empty, () -> empty.wouldMerge(0));
        StrataRepo busy = Make.pendingMerge();
        Check.state(52, "wouldMerge(0), pending", busy, () -> busy.wouldMerge(0));
        Check.index(52, "wouldMerge(4), pending", busy, () -> busy.wouldMerge(4));
    }

    private static void wouldConflict() {
        StrataRepo repo = Make.fork(new int[] {1, 2, 3}, new int[] {4, 2, 5}, new int[] {6, 2, 7});
        String before = Look.at(repo);
        Check.due(53, "wouldConflict(1)", repo.wouldConflict(1), 2);
        Check.due(53, "wouldConflict(2)", repo.wouldConflict(2), 0);
        Check.due(53, "wouldConflict(0), base without the file", repo.wouldConflict(0), 1);
        Check.due(53, "nothing is changed", Look.at(repo).equals(before), true);
        for (int commit : new int[] {-1, 3, 60, 64, Integer.MIN_VALUE, Integer.MAX_VALUE}) {
            Check.index(53, "wouldConflict(" + commit + ")", repo, () -> repo.wouldConflict(commit));
        }
        repo.create(4);
        Check.state(53, "wouldConflict(1), not clean", repo, () -> repo.wouldConflict(1));
        Check.index(53, "wouldConflict(3), not clean", repo, () -> repo.wouldConflict(3));
        StrataRepo empty = new StrataRepo();
        Check.index(53, "wouldConflict(0), none made", empty, () -> empty.wouldConflict(0));
        StrataRepo busy = Make.pendingMerge();
        Check.state(53, "wouldConflict(1), pending", busy, () -> busy.wouldConflict(1));
        Check.index(53, "wouldConflict(9), pending", busy, () -> busy.wouldConflict(9));
        StrataRepo swept = Make.chain(3);
        swept.reset(0);
        swept.sweep();
        Check.index(53, "wouldConflict(2), gone", swept, () -> swept.wouldConflict(2));
    }

    private static void withoutRoom() {
        StrataRepo repo = Make.chain(58);
        repo.branch(1);
        Make.commit(repo, 58, 0, 700);
        repo.go(1);
        Make.commit(repo, 59, 0, 800);
        Check.state(14, "merge(0), 60 made", repo, () -> repo.merge(0));
        Check.due(52, "wouldMerge(0), 60 made", repo.wouldMerge(0), 3);
        Check.due(53, "wouldConflict(58), 60 made", repo.wouldConflict(58), 1);
    }

    private static void meanLines() {
        StrataRepo repo = new StrataRepo();
        Check.near(54, "meanLines() without commits", repo.meanLines(), 0.0);
        Make.file(repo, 0, 1, 2);
        Make.file(repo, 1, 3);
        Check.near(54, "meanLines(), the desk counts not", repo.meanLines(), 0.0);
        repo.commit(1);
        Check.near(54, "meanLines() of 3", repo.meanLines(), 3.0);
        Make.commit(repo, 2, 2);
        repo.insert(0, 0, 5);
        repo.commit(3);
        Check.near(54, "meanLines() of 3, 3, 4", repo.meanLines(), 10.0 / 3.0);
        repo.reset(1);
        Check.near(54, "meanLines(), one not reached", repo.meanLines(), 10.0 / 3.0);
        repo.sweep();
        Check.near(54, "meanLines(), one gone", repo.meanLines(), 3.0);
        repo.insert(0, 0, 1);
        repo.commit(4);
        Check.near(54, "meanLines() of 3, 3, 4 again", repo.meanLines(), 10.0 / 3.0);
    }

    private static long fold(long[]... rows) {
        long d = 58027L;
        for (long[] row : rows) {
            for (long x : row) {
                d = d * 31 + x;
            }
        }
        return d;
    }

    private static void digest() {
        StrataRepo repo = new StrataRepo();
        Check.due(55, "digest() of a new object", repo.digest(), fold(
                new long[] {0, 0, 1, 0, 0, 0, 0, -1, -1}, new long[] {-1, -2, -2, -2, -2, -2, -2, -2},
                new long[] {-1, -1, -1, -1, -1, -1, -1, -1}));
        StrataRepo busy = Make.fork(new int[] {1, 2}, new int[] {1, 4}, new int[] {1, 5, 6});
        Make.commit(busy, 40, 1, 9);
        busy.reset(2);
        busy.sweep();
        busy.seek(0, 2);
        busy.replay(0);
        Check.due(55, "digest(), pending", busy.digest(), fold(
                new long[] {4, 1, 1, 4, 1, 1, 0, -1, 2}, new long[] {1, 1, -2, -2, -2, -2, -2, -2},
                new long[] {1, 1, -1, -1, 10, 1, 2, 1, 2, -1, -1, -1, -1, -1, -1, -1},
                new long[] {1, 1, 0, -1, 20, 2, 2, 1, 4, -1, -1, -1, -1, -1, -1, -1},
                new long[] {1, 0, 0, -1, 30, 2, 3, 1, 5, 6, -1, -1, -1, -1, -1, -1, -1},
                new long[] {0},
                new long[] {2, 1, 4, -1, -1, -1, -1, -1, -1, -1},
                new long[] {0, 1, 2, 1}));
        digestOfReplay();
        busy.settle(0, 1);
        busy.goOn();
        busy.create(7);
        Check.due(55, "digest(), not clean", busy.digest(), fold(
                new long[] {5, 1, 0, 0, 0, 0, 0, -1, 2}, new long[] {1, 4, -2, -2, -2, -2, -2, -2},
                new long[] {1, 1, -1, -1, 10, 1, 2, 1, 2, -1, -1, -1, -1, -1, -1, -1},
                new long[] {1, 1, 0, -1, 20, 2, 2, 1, 4, -1, -1, -1, -1, -1, -1, -1},
                new long[] {1, 0, 0, -1, 30, 2, 3, 1, 5, 6, -1, -1, -1, -1, -1, -1, -1},
                new long[] {0},
                new long[] {1, 1, 1, -1, 30, 3, 3, 1, 5, 6, -1, -1, -1, -1, -1, -1, -1},
                new long[] {3, 1, 5, 6, -1, -1, -1, -1, -1, -1, 0}));
    }

    /** Each number on its own: a commit left, a CONFLICT of the file 3 that theirs has not. */
    private static void digestOfReplay() {
        StrataRepo repo = new StrataRepo();
        Make.commit(repo, 5, 3, 8);
        repo.branch(2);
        Make.commit(repo, 6, 3, 9);
        repo.go(2);
        repo.delete(3);
        repo.commit(7);
        repo.create(0);
        repo.commit(8);
        repo.seek(0, 3);
        repo.replay(0);
        Check.due(55, "digest(), one left", repo.digest(), fold(
                new long[] {4, 2, 1, 4, 1, 1, 1, 2, -1}, new long[] {1, -2, 1, -2, -2, -2, -2, -2},
                new long[] {1, 1, -1, -1, 5, 1, -1, -1, -1, 1, 8, -1, -1, -1, -1},
                new long[] {1, 1, 0, -1, 6, 2, -1, -1, -1, 1, 9, -1, -1, -1, -1},
                new long[] {1, 0, 0, -1, 7, 2, -1, -1, -1, -1, -1, -1, -1, -1},
                new long[] {1, 0, 2, -1, 8, 3, 0, -1, -1, -1, -1, -1, -1, -1},
                new long[] {-1, -1, -1, 1, 9, -1, -1, -1, -1},
                new long[] {3, 1, -1, 1}));
    }

    public static void main(String[] arguments) {
        wouldMerge();
        wouldConflict();
        withoutRoom();
        meanLines();
        digest();
        Check.end();
    }
}
