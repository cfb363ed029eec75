/** Promises 1 to 7 and 28 to 30: the desk. */
public final class DeskTest {
    private static final int MIN = Integer.MIN_VALUE;
    private static final int MAX = Integer.MAX_VALUE;

    private static void newObject() {
        StrataRepo repo = new StrataRepo();
        Check.due(1, "commits()", repo.commits(), 0);
        Check.due(1, "head()", repo.head(), 0);
        Check.due(1, "commitOf(0)", repo.commitOf(0), -1);
        for (int n = 0; n < 8; n++) {
            Check.due(1, "deskLines(" + n + ")", repo.deskLines(n), -1);
            Check.due(1, "commitOf(" + n + ")", repo.commitOf(n), n == 0 ? -1 : -2);
        }
        Check.due(1, "isClean()", repo.isClean(), true);
        Check.due(1, "pending()", repo.pending(), 0);
        StrataRepo other = new StrataRepo();
        other.create(3);
        Check.due(1, "deskLines(3) of another object", repo.deskLines(3), -1);
    }

    private static void create() {
        StrataRepo repo = new StrataRepo();
        Check.due(2, "create(7)", repo.create(7), 1);
        Check.due(2, "create(0)", repo.create(0), 2);
        Check.due(2, "deskLines(7)", repo.deskLines(7), 0);
        Check.state(2, "create(7) again", repo, () -> repo.create(7));
        for (int file : new int[] {-1, 8, MIN, MAX}) {
            Check.index(2, "create(" + file + ")", repo, () -> repo.create(file));
        }
        for (int file = 1; file < 7; file++) {
            Check.due(2, "create(" + file + ")", repo.create(file), file + 2);
        }
        repo.insert(0, 0, 5);
        repo.delete(0);
        Check.due(2, "create(0) after delete(0)", repo.create(0), 8);
        Check.due(2, "deskLines(0) after it", repo.deskLines(0), 0);
        StrataRepo busy = Make.pendingMerge();
        Check.state(2, "create(5), pending", busy, () -> busy.create(5));
        Check.index(2, "create(8), pending", busy, () -> busy.create(8));
    }

    private static void delete() {
        StrataRepo repo = new StrataRepo();
        Make.file(repo, 2, 5, 6, 7);
        Make.file(repo, 3);
        Check.state(3, "delete(0)", repo, () -> repo.delete(0));
        for (int file : new int[] {-1, 8, MIN, MAX}) {
            Check.index(3, "delete(" + file + ")", repo, () -> repo.delete(file));
        }
        Check.due(3, "delete(2)", repo.delete(2), 3);
        Check.due(3, "deskLines(2)", repo.deskLines(2), -1);
        Check.due(3, "deskLines(3)", repo.deskLines(3), 0);
        Check.due(3, "delete(3)", repo.delete(3), 0);
        Check.state(3, "delete(2) again", repo, () -> repo.delete(2));
        StrataRepo busy = Make.pendingMerge();
        Check.state(3, "delete(0), pending", busy, () -> busy.delete(0));
        Check.index(3, "delete(-1), pending", busy, () -> busy.delete(-1));
    }

    private static void insert() {
        StrataRepo repo = new StrataRepo();
        repo.create(1);
        Check.due(4, "insert(1, 0, 10)", repo.insert(1, 0, 10), 1);
        Check.due(4, "insert(1, 1, 999)", repo.insert(1, 1, 999), 2);
        Check.due(4, "insert(1, 0, 0)", repo.insert(1, 0, 0), 3);
        Check.due(4, "insert(1, 1, 5)", repo.insert(1, 1, 5), 4);
        Check.due(4, "file 1", Make.desk(repo, 1), "0 5 10 999");
        Check.index(4, "insert(-1, 0, -1)", repo, () -> repo.insert(-1, 0, -1));
        Check.index(4, "insert(8, 0, 1)", repo, () -> repo.insert(8, 0, 1));
        Check.argument(4, "insert(0, 0, -1), no file", repo, () -> repo.insert(0, 0, -1));
        Check.argument(4, "insert(1, 9, 1000), no place", repo, () -> repo.insert(1, 9, 1000));
        Check.argument(4, "insert(1, 0, MIN)", repo, () -> repo.insert(1, 0, MIN));
        Check.argument(4, "insert(1, 0, MAX)", repo, () -> repo.insert(1, 0, MAX));
        Check.state(4, "insert(0, 0, 1), no file", repo, () -> repo.insert(0, 0, 1));
        for (int place : new int[] {-1, 5, 40, MIN, MAX}) {
            Check.state(4, "insert(1, " + place + ", 1)", repo, () -> repo.insert(1, place, 1));
        }
        for (int size = 4; size < 40; size++) {
            Check.due(4, "insert at the end", repo.insert(1, size, size), size + 1);
        }
        Check.state(4, "insert(1, 0, 1), 40 lines", repo, () -> repo.insert(1, 0, 1));
        Check.state(4, "insert(1, 40, 1), 40 lines", repo, () -> repo.insert(1, 40, 1));
        Check.due(4, "deskLine(1, 39)", repo.deskLine(1, 39), 39);
        repo.create(2);
        Check.due(4, "insert(2, 0, 7)", repo.insert(2, 0, 7), 1);
        Check.due(4, "deskLine(1, 39), other file", repo.deskLine(1, 39), 39);
        StrataRepo busy = Make.pendingMerge();
        Check.state(4, "insert, pending", busy, () -> busy.insert(0, 0, 1));
        Check.argument(4, "insert of 1000, pending", busy, () -> busy.insert(0, 0, 1000));
        Check.index(4, "insert into 8, pending", busy, () -> busy.insert(8, 0, 1));
    }

    private static void erase() {
        StrataRepo repo = new StrataRepo();
        Make.file(repo, 0, 1, 2, 3, 4);
        Make.file(repo, 1, 9);
        Check.due(5, "erase(0, 1)", repo.erase(0, 1), 2);
        Check.due(5, "file 0", Make.desk(repo, 0), "1 3 4");
        Check.due(5, "erase(0, 2)", repo.erase(0, 2), 4);
        Check.due(5, "erase(0, 0)", repo.erase(0, 0), 1);
        Check.due(5, "file 0", Make.desk(repo, 0), "3");
        Check.due(5, "file 1", Make.desk(repo, 1), "9");
        Check.index(5, "erase(8, 0)", repo, () -> repo.erase(8, 0));
        Check.index(5, "erase(-1, -1)", repo, () -> repo.erase(-1, -1));
        Check.state(5, "erase(2, 0), no file", repo, () -> repo.erase(2, 0));
        for (int place : new int[] {-1, 1, MIN, MAX}) {
            Check.state(5, "erase(0, " + place + ")", repo, () -> repo.erase(0, place));
        }
        Check.due(5, "erase(0, 0)", repo.erase(0, 0), 3);
        Check.due(5, "deskLines(0)", repo.deskLines(0), 0);
        Check.state(5, "erase(0, 0), no lines", repo, () -> repo.erase(0, 0));
        StrataRepo busy = Make.pendingMerge();
        Check.state(5, "erase, pending", busy, () -> busy.erase(0, 0));
        Check.index(5, "erase of 8, pending", busy, () -> busy.erase(8, 0));
    }

    private static void replace() {
        StrataRepo repo = new StrataRepo();
        Make.file(repo, 7, 1, 2, 3);
        Check.due(6, "replace(7, 1, 999)", repo.replace(7, 1, 999), 2);
        Check.due(6, "replace(7, 1, 0)", repo.replace(7, 1, 0), 999);
        Check.due(6, "replace(7, 2, 3), the same", repo.replace(7, 2, 3), 3);
        Check.due(6, "file 7", Make.desk(repo, 7), "1 0 3");
        Check.index(6, "replace(8, 0, -1)", repo, () -> repo.replace(8, 0, -1));
        Check.index(6, "replace(-1, 0, 0)", repo, () -> repo.replace(-1, 0, 0));
        Check.argument(6, "replace(0, 0, 1000), no file", repo, () -> repo.replace(0, 0, 1000));
        Check.argument(6, "replace(7, 3, -1), no place", repo, () -> repo.replace(7, 3, -1));
        Check.state(6, "replace(0, 0, 1), no file", repo, () -> repo.replace(0, 0, 1));
        for (int place : new int[] {-1, 3, MIN, MAX}) {
            Check.state(6, "replace(7, " + place + ", 1)", repo, () -> repo.replace(7, place, 1));
        }
        StrataRepo busy = Make.pendingMerge();
        Check.state(6, "replace, pending", busy, () -> busy.replace(0, 0, 1));
        Check.argument(6, "replace by -1, pending", busy, () -> busy.replace(0, 0, -1));
        Check.index(6, "replace in 8, pending", busy, () -> busy.replace(8, 0, 1));
    }

    private static void discard() {
        StrataRepo repo = new StrataRepo();
        Check.due(7, "discard() of nothing", repo.discard(), 0);
        repo.create(0);
        Make.file(repo, 1, 4);
        Check.due(7, "discard() without a commit", repo.discard(), 2);
        Check.due(7, "deskLines(1)", repo.deskLines(1), -1);
        Make.file(repo, 0, 1, 2);
        Make.file(repo, 1, 3);
        Make.file(repo, 2);
        repo.commit(1);
        Check.due(7, "discard() of a clean desk", repo.discard(), 0);
        repo.replace(0, 1, 7);
        repo.delete(1);
        repo.create(3);
        Check.due(7, "discard()", repo.discard(), 3);
        Check.due(7, "file 0", Make.desk(repo, 0), "1 2");
        Check.due(7, "file 1", Make.desk(repo, 1), "3");
        Check.due(7, "file 2", Make.desk(repo, 2), "");
        Check.due(7, "file 3", Make.desk(repo, 3), "none");
        repo.delete(2);
        Check.due(7, "discard(), a file without lines gone", repo.discard(), 1);
        repo.insert(0, 0, 5);
        repo.erase(0, 0);
        Check.due(7, "discard() of what is as before", repo.discard(), 0);
        repo.replace(0, 0, 8);
        Check.due(7, "lineAt(0, 0, 0) when the desk is edited", repo.lineAt(0, 0, 0), 1);
        StrataRepo busy = Make.pendingMerge();
        Check.state(7, "discard(), pending", busy, busy::discard);
    }

    /** The last file has its forty lines at the very end of what is kept. */
    private static void lastFile() {
        StrataRepo repo = new StrataRepo();
        Make.file(repo, 6, Make.row(100, 40));
        Make.file(repo, 7, Make.row(200, 40));
        Check.state(4, "insert(7, 40, 1), 40 lines", repo, () -> repo.insert(7, 40, 1));
        Check.due(6, "replace(7, 39, 5)", repo.replace(7, 39, 5), 239);
        Check.state(6, "replace(7, 40, 5)", repo, () -> repo.replace(7, 40, 5));
        Check.state(5, "erase(7, 40)", repo, () -> repo.erase(7, 40));
        Check.due(5, "erase(7, 0)", repo.erase(7, 0), 200);
        Check.due(29, "deskLine(7, 38)", repo.deskLine(7, 38), 5);
        Check.due(4, "insert(7, 0, 6)", repo.insert(7, 0, 6), 40);
        Check.due(29, "deskLine(7, 39)", repo.deskLine(7, 39), 5);
        Check.due(5, "erase(7, 39)", repo.erase(7, 39), 5);
        Check.due(4, "insert(7, 39, 7)", repo.insert(7, 39, 7), 40);
        Check.due(5, "erase(6, 39)", repo.erase(6, 39), 139);
        Check.due(29, "deskLine(7, 0)", repo.deskLine(7, 0), 6);
        Check.due(6, "replace(6, 0, 8)", repo.replace(6, 0, 8), 100);
        Check.due(29, "deskLine(6, 0)", repo.deskLine(6, 0), 8);
    }

    private static void asked() {
        StrataRepo repo = new StrataRepo();
        Make.file(repo, 4, 11, 12);
        Check.due(28, "deskLines(4)", repo.deskLines(4), 2);
        Check.due(28, "deskLines(5)", repo.deskLines(5), -1);
        repo.create(5);
        Check.due(28, "deskLines(5), empty", repo.deskLines(5), 0);
        for (int file : new int[] {-1, 8, MIN, MAX}) {
            Check.index(28, "deskLines(" + file + ")", repo, () -> repo.deskLines(file));
            Check.index(29, "deskLine(" + file + ", 0)", repo, () -> repo.deskLine(file, 0));
        }
        Check.due(29, "deskLine(4, 0)", repo.deskLine(4, 0), 11);
        Check.due(29, "deskLine(4, 1)", repo.deskLine(4, 1), 12);
        for (int place : new int[] {-1, 2, MIN, MAX}) {
            Check.index(29, "deskLine(4, " + place + ")", repo, () -> repo.deskLine(4, place));
        }
        Check.index(29, "deskLine(5, 0)", repo, () -> repo.deskLine(5, 0));
        Check.index(29, "deskLine(6, 0)", repo, () -> repo.deskLine(6, 0));
        Check.index(29, "deskLine(6, -1)", repo, () -> repo.deskLine(6, -1));
        StrataRepo busy = Make.pendingMerge();
        Check.due(28, "deskLines(0), pending", busy.deskLines(0), 3);
        Check.due(29, "deskLine(0, 1), pending", busy.deskLine(0, 1), 5);
    }

    private static void isClean() {
        StrataRepo repo = new StrataRepo();
        repo.create(0);
        Check.due(30, "isClean() with a file without lines", repo.isClean(), false);
        repo.delete(0);
        Check.due(30, "isClean() without it", repo.isClean(), true);
        Make.file(repo, 0, 1, 2);
        repo.commit(0);
        Check.due(30, "isClean() behind commit()", repo.isClean(), true);
        repo.replace(0, 1, 3);
        Check.due(30, "isClean(), a line other", repo.isClean(), false);
        repo.replace(0, 1, 2);
        Check.due(30, "isClean(), the line back", repo.isClean(), true);
        repo.erase(0, 1);
        Check.due(30, "isClean(), a line less", repo.isClean(), false);
        repo.discard();
        repo.create(7);
        Check.due(30, "isClean(), a file more", repo.isClean(), false);
        repo.discard();
        Check.due(30, "isClean() behind discard()", repo.isClean(), true);
        Check.due(30, "isClean(), pending", Make.pendingMerge().isClean(), true);
    }

    public static void main(String[] arguments) {
        newObject();
        create();
        delete();
        insert();
        erase();
        replace();
        discard();
        lastFile();
        asked();
        isClean();
        Check.end();
    }
}
