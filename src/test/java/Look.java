/** What a repository is, told with few calls: the checksum has in it all but the lines of CONFLICTS. */
final class Look {
    private Look() {
    }

    static String at(StrataRepo repo) {
        return repo.digest() + " " + repo.meanLines();
    }
}
