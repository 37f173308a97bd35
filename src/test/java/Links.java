/** A run of calls that links all ten places in a row, 0 to 9, with 99 seconds each: nine links. */
final class Links {
    static final String ROW_OF_ALL = row();

    private Links() {
    }

    private static String row() {
        StringBuilder links = new StringBuilder();
        for (int place = 1; place <= 9; place++) {
            links.append("event 6 " + (place - 1) + " " + place + " 99 = 1\n");
        }
        return links.toString();
    }
}
