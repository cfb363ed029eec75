/** Everything that can be asked of a repository without a search or a change, as one text. */
final class Look {
    private Look() {
    }

    static String at(StrataRepo repo) {
        StringBuilder text = new StringBuilder();
        text.append(repo.head()).append(' ').append(repo.isClean()).append(' ').append(repo.pending());
        text.append(' ').append(repo.conflicts()).append(' ').append(repo.unsettled());
        text.append(' ').append(repo.left()).append(' ').append(repo.probe()).append(' ').append(repo.culprit());
        text.append(' ').append(repo.meanLines()).append(' ').append(repo.digest()).append('\n');
        for (int branch = 0; branch < 8; branch++) {
            text.append(repo.commitOf(branch)).append(' ');
        }
        text.append('\n');
        for (int file = 0; file < 8; file++) {
            text.append(repo.deskLines(file)).append(':');
            for (int place = 0; place < repo.deskLines(file); place++) {
                text.append(repo.deskLine(file, place)).append(' ');
            }
        }
        text.append('\n');
        for (int commit = 0; commit < repo.commits(); commit++) {
            text.append(commit).append(' ').append(repo.isThere(commit));
            if (repo.isThere(commit)) {
                commit(repo, commit, text);
            }
            text.append('\n');
        }
        for (int conflict = 0; conflict < repo.conflicts(); conflict++) {
            conflict(repo, conflict, text);
        }
        return text.toString();
    }

    private static void commit(StrataRepo repo, int commit, StringBuilder text) {
        text.append(' ').append(repo.isReached(commit)).append(' ').append(repo.wordOf(commit));
        text.append(' ').append(repo.parent(commit, false)).append(' ').append(repo.parent(commit, true));
        text.append(' ').append(repo.depthOf(commit)).append(' ');
        for (int file = 0; file < 8; file++) {
            text.append(repo.lines(commit, file)).append(':');
            for (int place = 0; place < repo.lines(commit, file); place++) {
                text.append(repo.lineAt(commit, file, place)).append(' ');
            }
        }
    }

    private static void conflict(StrataRepo repo, int conflict, StringBuilder text) {
        text.append(repo.conflictFile(conflict));
        for (int side = 0; side < 3; side++) {
            text.append(' ').append(repo.pieceSize(conflict, side)).append(':');
            for (int place = 0; place < repo.pieceSize(conflict, side); place++) {
                text.append(repo.pieceLine(conflict, side, place)).append(' ');
            }
        }
        text.append('\n');
    }
}
