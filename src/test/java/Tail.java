/**
 * What can still come of an object, told as a text: two objects that stand alike tell the same. A
 * tail ends the use of the object.
 */
enum Tail {
    /** Tells the search to its end, settles what is in CONFLICT, and goes on until nothing is PENDING. */
    GO_ON,
    /** Tells the search to its end the other way, and gives up. */
    GIVE_UP;

    private static final int MOST_ROUNDS = 8;

    String of(StrataRepo repo) {
        StringBuilder text = new StringBuilder();
        try {
            text.append(repo.digest()).append(' ').append(repo.meanLines());
            search(repo, text);
            if (this == GO_ON) {
                goOn(repo, text);
            } else if (repo.pending() != 0) {
                text.append(" given up ").append(repo.giveUp());
            }
            text.append(' ').append(repo.digest());
            edit(repo, text);
        } catch (RuntimeException e) {
            text.append(' ').append(e);
        }
        return text.toString();
    }

    private void search(StrataRepo repo, StringBuilder text) {
        text.append(" search");
        for (int round = 0; round < MOST_ROUNDS && repo.probe() != -1; round++) {
            text.append(' ').append(repo.probe()).append(':').append(repo.tell(this == GO_ON));
        }
        text.append(' ').append(repo.culprit());
    }

    private static void goOn(StrataRepo repo, StringBuilder text) {
        for (int round = 0; round < MOST_ROUNDS && repo.pending() != 0; round++) {
            text.append(" pending ").append(repo.pending()).append(' ').append(repo.unsettled());
            int conflicts = Math.min(repo.conflicts(), 4);
            for (int conflict = 0; conflict < conflicts; conflict++) {
                pieces(repo, conflict, text);
            }
            for (int conflict = 0; conflict < repo.conflicts(); conflict++) {
                text.append(' ').append(repo.settle(conflict, (conflict + 2) % 4));
            }
            text.append(" on ").append(repo.goOn());
        }
    }

    private static void pieces(StrataRepo repo, int conflict, StringBuilder text) {
        text.append(" file ").append(repo.conflictFile(conflict));
        for (int side = 0; side < 3; side++) {
            int size = repo.pieceSize(conflict, side);
            text.append(" size ").append(size);
            for (int place = 0; place < size && place < 4; place++) {
                text.append(' ').append(repo.pieceLine(conflict, side, place));
            }
        }
    }

    /** The DESK may be other than it shows, so it is used. */
    private static void edit(StrataRepo repo, StringBuilder text) {
        int file = 6;
        text.append(" edit ").append(repo.deskLines(file));
        if (repo.deskLines(file) == -1) {
            text.append(' ').append(repo.create(file)).append(repo.deskLines(file));
        }
        text.append(' ').append(repo.discard());
        if (repo.commits() < 60) {
            text.append(' ').append(repo.deskLines(file) == -1 ? repo.create(file) : repo.delete(file));
            text.append(' ').append(repo.commit(999)).append(' ').append(repo.digest());
        }
        text.append(' ').append(repo.sweep()).append(' ').append(repo.digest());
    }
}
