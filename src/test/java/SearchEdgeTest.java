/** Promises 48 to 51, each boundary that they name: searching. */
public final class SearchEdgeTest {
    private static final int MIN = Edge.MIN;
    private static final int MAX = Edge.MAX;

    private SearchEdgeTest() {
    }

    private static int[] noCommits(int made) {
        return Edge.numbers(-1, -2, made, made + 1, 60, 61, 63, 64, 128, MIN, MAX);
    }

    /** A row of commits, with a search that has so many SUSPECTS: the last ones. */
    private static StrataRepo search(int made, int suspects) {
        StrataRepo repo = State.chain(made);
        repo.seek(made - 1 - suspects, made - 1);
        return repo;
    }

    // ---- promise 48: seek

    static void promise48_oneSuspect() {
        StrataRepo repo = State.chain(60);
        Edge.due(repo.seek(58, 59), 1);
        Edge.due(repo.seek(0, 1), 1);
    }

    static void promise48_fiftyNineSuspects() {
        StrataRepo repo = State.chain(60);
        Edge.due(repo.seek(0, 59), 59);
        Edge.due(repo.seek(0, 58), 58);
        Edge.due(repo.seek(1, 59), 58);
    }

    static void promise48_badIsGood() {
        Edge.refused(Edge.ARGUMENT, State::ready, Edge.numbers(0, 1, 5), (r, commit) -> r.seek(commit, commit));
        Edge.refused(Edge.ARGUMENT, State::full, Edge.numbers(0, 59), (r, commit) -> r.seek(commit, commit));
    }

    static void promise48_badIsAncestorOfGood() {
        Edge.refused(Edge.ARGUMENT, State::ready, r -> r.seek(1, 0), r -> r.seek(5, 0), r -> r.seek(5, 4));
        Edge.refused(Edge.ARGUMENT, State::full, r -> r.seek(59, 0), r -> r.seek(59, 57));
    }

    static void promise48_neitherIsAncestorOfTheOther() {
        StrataRepo repo = State.ready();
        Edge.due(repo.seek(5, 2), 2);
        Edge.due(repo.probe(), 1);
        Edge.due(repo.seek(2, 5), 3);
        Edge.due(repo.probe(), 3);
        StrataRepo full = State.full();
        Edge.due(full.seek(58, 59), 1);
        Edge.due(full.culprit(), 59);
        Edge.due(full.seek(59, 58), 1);
        Edge.due(full.culprit(), 58);
    }

    static void promise48_inPlaceOfOneThatIsOn() {
        StrataRepo repo = State.ready();
        Edge.due(repo.probe(), 3);
        Edge.due(repo.seek(0, 2), 2);
        Edge.due(repo.probe(), 1);
    }

    static void promise48_inPlaceOfOneThatFoundItsOwn() {
        StrataRepo repo = search(5, 1);
        Edge.due(repo.culprit(), 4);
        Edge.due(repo.seek(0, 4), 4);
        Edge.due(repo.culprit(), -1);
        Edge.due(repo.probe(), 2);
    }

    static void promise48_commitsThatAreNotReached() {
        StrataRepo repo = State.chain(4);
        repo.reset(0);
        Edge.due(repo.seek(1, 3), 2);
        Edge.due(repo.probe(), 2);
    }

    static void promise48_acrossGoneNumbers() {
        StrataRepo repo = State.swept();
        Edge.due(repo.seek(0, 5), 3);
        Edge.due(repo.probe(), 1);
        Edge.due(repo.tell(false), 2);
        Edge.due(repo.probe(), 2);
        Edge.due(repo.tell(false), 1);
        Edge.due(repo.culprit(), 5);
    }

    static void promise48_noSuchCommit() {
        Edge.refused(Edge.INDEX, State::ready, noCommits(6), (r, wrong) -> r.seek(wrong, 5));
        Edge.refused(Edge.INDEX, State::ready, noCommits(6), (r, wrong) -> r.seek(0, wrong));
        Edge.refused(Edge.INDEX, State::full, noCommits(60), (r, wrong) -> r.seek(wrong, 59));
        Edge.refused(Edge.INDEX, State::full, noCommits(60), (r, wrong) -> r.seek(0, wrong));
    }

    static void promise48_gone() {
        Edge.refused(Edge.INDEX, State::swept, Edge.numbers(3, 4), (r, gone) -> r.seek(gone, 5));
        Edge.refused(Edge.INDEX, State::swept, Edge.numbers(3, 4), (r, gone) -> r.seek(0, gone));
    }

    static void promise48_commitGoesAheadOfAncestor() {
        Edge.refused(Edge.INDEX, State::ready, noCommits(6), (r, wrong) -> r.seek(wrong, wrong));
        Edge.refused(Edge.INDEX, State::ready, noCommits(6), (r, wrong) -> r.seek(wrong, 0));
        Edge.refused(Edge.INDEX, State::swept, r -> r.seek(3, 3), r -> r.seek(4, 3), r -> r.seek(4, 0));
    }

    static void promise48_whileWorkIsPending() {
        Edge.due(State.busy(1).seek(0, 5), 3);
        Edge.refused(Edge.ARGUMENT, () -> State.busy(4), r -> r.seek(5, 0));
        Edge.refused(Edge.INDEX, () -> State.busy(4), r -> r.seek(6, 0), r -> r.seek(0, -1));
    }

    // ---- promise 49: probe

    static void promise49_withoutASearch() {
        Edge.due(new StrataRepo().probe(), -1);
        Edge.due(State.full().probe(), -1);
    }

    static void promise49_oneSuspectIsLeft() {
        Edge.due(search(60, 1).probe(), -1);
        StrataRepo repo = search(5, 2);
        Edge.due(repo.probe(), 3);
        repo.tell(true);
        Edge.due(repo.probe(), -1);
    }

    static void promise49_smallestNumberOfSeveral() {
        Edge.due(search(5, 2).probe(), 3);
        Edge.due(search(5, 3).probe(), 2);
        Edge.due(search(5, 4).probe(), 2);
        Edge.due(search(60, 59).probe(), 29);
        Edge.due(search(60, 58).probe(), 30);
    }

    static void promise49_suspectsAloneCount() {
        // Of 3, 4 and 5 each has the commit 0 behind it, which is no SUSPECT.
        Edge.due(State.ready().probe(), 3);
    }

    /** Commits 1 and 2 are beside one another on 0; 3 is 2 merged with 1, and 4 behind it. */
    private static StrataRepo diamond() {
        StrataRepo repo = State.chain(1);
        repo.branch(1);
        repo.create(1);
        repo.commit(1);
        repo.go(1);
        repo.create(2);
        repo.commit(2);
        repo.merge(0);
        repo.create(4);
        repo.commit(4);
        repo.seek(0, 4);
        return repo;
    }

    static void promise49_bothSidesOfAMerge() {
        StrataRepo repo = diamond();
        Edge.due(repo.probe(), 1);
        Edge.due(repo.tell(false), 3);
        Edge.due(repo.probe(), 2);
        Edge.due(repo.tell(false), 2);
        Edge.due(repo.probe(), 3);
        Edge.due(repo.tell(false), 1);
        Edge.due(repo.culprit(), 4);
    }

    static void promise49_changesNothing() {
        StrataRepo repo = State.ready();
        Edge.due(repo.probe(), 3);
        Edge.due(repo.probe(), 3);
        Edge.due(repo.digest(), State.ready().digest());
    }

    // ---- promise 50: tell

    static void promise50_itWasBad() {
        StrataRepo repo = search(60, 59);
        Edge.due(repo.tell(true), 29);
        Edge.due(repo.probe(), 14);
        Edge.due(repo.tell(true), 14);
        Edge.due(repo.probe(), 7);
        Edge.due(repo.tell(true), 7);
        Edge.due(repo.probe(), 3);
        Edge.due(repo.tell(true), 3);
        Edge.due(repo.probe(), 1);
        Edge.due(repo.tell(true), 1);
        Edge.due(repo.culprit(), 1);
    }

    static void promise50_itWasNotBad() {
        StrataRepo repo = search(60, 59);
        Edge.due(repo.tell(false), 30);
        Edge.due(repo.probe(), 44);
        Edge.due(repo.tell(false), 15);
        Edge.due(repo.probe(), 51);
        Edge.due(repo.tell(false), 8);
        Edge.due(repo.probe(), 55);
        Edge.due(repo.tell(false), 4);
        Edge.due(repo.probe(), 57);
        Edge.due(repo.tell(false), 2);
        Edge.due(repo.probe(), 58);
        Edge.due(repo.tell(false), 1);
        Edge.due(repo.culprit(), 59);
    }

    static void promise50_ofTwo() {
        StrataRepo repo = search(5, 2);
        Edge.due(repo.tell(true), 1);
        Edge.due(repo.culprit(), 3);
        repo = search(5, 2);
        Edge.due(repo.tell(false), 1);
        Edge.due(repo.culprit(), 4);
    }

    static void promise50_onlySuspectsStay() {
        StrataRepo repo = diamond();
        Edge.due(repo.tell(true), 1);
        Edge.due(repo.culprit(), 1);
    }

    static void promise50_withoutASearch() {
        Edge.refused(Edge.STATE, StrataRepo::new, r -> r.tell(true), r -> r.tell(false));
        Edge.refused(Edge.STATE, State::full, r -> r.tell(true), r -> r.tell(false));
    }

    static void promise50_oneSuspectIsLeft() {
        Edge.refused(Edge.STATE, () -> search(60, 1), r -> r.tell(true), r -> r.tell(false));
        Edge.refused(Edge.STATE, () -> {
            StrataRepo repo = search(5, 2);
            repo.tell(false);
            return repo;
        }, r -> r.tell(true), r -> r.tell(false));
    }

    static void promise50_searchIsOver() {
        Edge.refused(Edge.STATE, () -> {
            StrataRepo repo = State.ready();
            repo.sweep();
            return repo;
        }, r -> r.tell(true), r -> r.tell(false));
    }

    // ---- promise 51: culprit

    static void promise51_withoutASearch() {
        Edge.due(new StrataRepo().culprit(), -1);
        Edge.due(State.full().culprit(), -1);
    }

    static void promise51_moreThanOneIsLeft() {
        Edge.due(search(60, 59).culprit(), -1);
        Edge.due(search(5, 2).culprit(), -1);
    }

    static void promise51_oneIsLeft() {
        Edge.due(search(60, 1).culprit(), 59);
        Edge.due(search(2, 1).culprit(), 1);
    }

    static void promise51_staysWhileTheHeadMoves() {
        StrataRepo repo = search(5, 1);
        repo.reset(0);
        Edge.due(repo.culprit(), 4);
        repo.create(7);
        repo.commit(1);
        Edge.due(repo.culprit(), 4);
        repo.sweep();
        Edge.due(repo.culprit(), -1);
    }

    public static void main(String[] arguments) {
        Edge.run(SearchEdgeTest.class);
    }
}
