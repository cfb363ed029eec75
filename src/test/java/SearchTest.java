/** Promises 48 to 51: searching. */
public final class SearchTest {
    private static void row() {
        StrataRepo repo = Make.chain(10);
        Check.due(48, "seek(1, 8)", repo.seek(1, 8), 7);
        Check.due(49, "probe(), 3 or 4 of 7, the smaller number", repo.probe(), 4);
        Check.due(51, "culprit()", repo.culprit(), -1);
        Check.due(50, "tell(true)", repo.tell(true), 3);
        Check.due(49, "probe()", repo.probe(), 2);
        Check.due(50, "tell(false)", repo.tell(false), 2);
        Check.due(49, "probe()", repo.probe(), 3);
        Check.due(50, "tell(false)", repo.tell(false), 1);
        Check.due(49, "probe(), one left", repo.probe(), -1);
        Check.due(51, "culprit()", repo.culprit(), 4);
        Check.state(50, "tell(true), one left", repo, () -> repo.tell(true));
        Check.state(50, "tell(false), one left", repo, () -> repo.tell(false));
        Check.due(51, "culprit() again", repo.culprit(), 4);
        Check.due(48, "seek(8, 9), of one", repo.seek(8, 9), 1);
        Check.due(51, "culprit() of one", repo.culprit(), 9);
        Check.due(49, "probe() of one", repo.probe(), -1);
        Check.due(48, "seek(0, 2), of two", repo.seek(0, 2), 2);
        Check.due(51, "culprit() of two", repo.culprit(), -1);
        Check.due(49, "probe() of two", repo.probe(), 1);
        Check.due(50, "tell(true)", repo.tell(true), 1);
        Check.due(51, "culprit()", repo.culprit(), 1);
    }

    private static void tree() {
        StrataRepo repo = Make.fork(new int[] {1, 2, 3}, new int[] {1, 2, 3, 4}, new int[] {0, 1, 2, 3});
        Make.commit(repo, 3, 1, 1);
        repo.merge(0);
        Make.commit(repo, 5, 2, 2);
        // 0 - 1 - 4 - 5 and 0 - 2 - 3 - 4
        Check.due(48, "seek(0, 5)", repo.seek(0, 5), 5);
        Check.due(49, "probe(), 3 has 2 and 3 others", repo.probe(), 3);
        Check.due(50, "tell(false)", repo.tell(false), 3);
        Check.due(49, "probe() of 1, 4, 5", repo.probe(), 1);
        Check.due(50, "tell(false)", repo.tell(false), 2);
        Check.due(49, "probe() of 4, 5", repo.probe(), 4);
        Check.due(50, "tell(true)", repo.tell(true), 1);
        Check.due(51, "culprit()", repo.culprit(), 4);
        Check.due(48, "seek(1, 4), on another line", repo.seek(1, 4), 3);
        Check.due(49, "probe() of 2, 3, 4", repo.probe(), 2);
        Check.due(48, "seek(3, 1), neither behind the other", repo.seek(3, 1), 1);
        Check.due(51, "culprit()", repo.culprit(), 1);
    }

    private static void wrong() {
        StrataRepo repo = Make.chain(5);
        Check.due(49, "probe() without a search", repo.probe(), -1);
        Check.due(51, "culprit() without a search", repo.culprit(), -1);
        Check.state(50, "tell(true) without a search", repo, () -> repo.tell(true));
        for (int commit : new int[] {-1, 5, 60, 64, Integer.MIN_VALUE, Integer.MAX_VALUE}) {
            Check.index(48, "seek(" + commit + ", 1)", repo, () -> repo.seek(commit, 1));
            Check.index(48, "seek(1, " + commit + ")", repo, () -> repo.seek(1, commit));
        }
        Check.argument(48, "seek(3, 3)", repo, () -> repo.seek(3, 3));
        Check.argument(48, "seek(3, 1)", repo, () -> repo.seek(3, 1));
        repo.seek(0, 4);
        Check.due(49, "probe()", repo.probe(), 2);
        Check.argument(48, "seek(3, 1) in a search", repo, () -> repo.seek(3, 1));
        Check.index(48, "seek(5, 1) in a search", repo, () -> repo.seek(5, 1));
        Check.due(49, "probe() behind them", repo.probe(), 2);
        repo.reset(2);
        Check.due(49, "probe() behind reset()", repo.probe(), 2);
        repo.sweep();
        Check.due(49, "probe() behind sweep()", repo.probe(), -1);
        Check.state(50, "tell(true) behind sweep()", repo, () -> repo.tell(true));
        Check.index(48, "seek(0, 4), gone", repo, () -> repo.seek(0, 4));
        Check.index(48, "seek(4, 0), gone", repo, () -> repo.seek(4, 0));
    }

    private static void greatest() {
        StrataRepo repo = Make.chain(60);
        Check.due(48, "seek(0, 59)", repo.seek(0, 59), 59);
        Check.due(49, "probe()", repo.probe(), 29);
        Check.due(50, "tell(false)", repo.tell(false), 30);
        Check.due(49, "probe()", repo.probe(), 44);
        repo.tell(false);
        Check.due(49, "probe() of 45 to 59", repo.probe(), 51);
        repo.tell(false);
        Check.due(49, "probe() of 52 to 59", repo.probe(), 55);
        repo.tell(false);
        repo.tell(false);
        repo.tell(false);
        Check.due(51, "culprit()", repo.culprit(), 59);
    }

    public static void main(String[] arguments) {
        row();
        tree();
        wrong();
        greatest();
        Check.end();
    }
}
