/** One test: a new book, calls on it, and how many answers were not as due. */
final class Case {
    static final int NONE = BallotBook.NONE;
    static final int MOST = Integer.MAX_VALUE;
    static final int LEAST = Integer.MIN_VALUE;
    /** Stock 0 to 9, 10 11 13 14 (12 is spoiled), 16 to 18; 4, 2 and 0 wait; 15 and 19 are no papers. */
    static final String THREE =
            "papers 20;station 0 9;station 10 14;station 16 18;voters 0 4;voters 1 2;spoiled 12";

    BallotBook book = new BallotBook();
    int asked;
    int wrong;
    private final String name;

    Case(String name) {
        this.name = name;
    }

    void due(String call, int got, int want) {
        asked++;
        if (got != want) {
            complain(call + " answered " + got + ", due is " + want);
        }
    }

    private void complain(String what) {
        wrong++;
        System.out.println(name + ": " + what);
    }

    /** A test of another beginning on a new book. */
    BallotBook renew() {
        book = new BallotBook();
        return book;
    }

    BallotBook begin(String text) {
        renew();
        if (election(text) < 0) {
            complain("'" + text + "' is no election");
        }
        return book;
    }

    void put(String text) {
        int length = book.count(13) + text.length();
        for (int i = 0; i < text.length(); i += 20) {
            int[] words = new int[5];
            for (int k = 0; k < 20; k++) {
                words[k / 4] = words[k / 4] << 8 | (i + k < text.length() ? text.charAt(i + k) : 0);
            }
            book.feed(words[0], words[1], words[2], words[3], words[4]);
        }
        book.end(length);
    }

    int election(String text) {
        put(text);
        return book.election();
    }

    int rule(String text) {
        put(text);
        return book.rule();
    }

    /** A rule is read and in force. */
    void enforce(String text) {
        due("force " + text, book.force(rule(text)) == -2 ? 1 : 0, 0);
    }

    void hours(int n) {
        for (int i = 0; i < n; i++) {
            book.hour();
        }
    }

    void tellAll(int station, int stock, int box, int spoiled) {
        book.tell(station, 0, stock);
        book.tell(station, 1, box);
        book.tell(station, 2, spoiled);
    }

    /** A row of a box (what 1) or of spoiled ones (what 2), and that nothing comes behind it. */
    void dueRow(int station, int what, int... numbers) {
        for (int place = 0; place < numbers.length; place++) {
            due("row(" + station + ", " + what + ", " + place + ")", book.row(station, what, place), numbers[place]);
        }
        due("row behind the last", book.row(station, what, numbers.length), NONE);
    }

    private static int fault(String marked, int kind) {
        return -2 - (1 + 8 * marked.indexOf('^') + kind);
    }

    /** The sign ^ marks the place of the fault and is not in the text. */
    void badElection(String marked, int kind) {
        due("election '" + marked + "'", election(marked.replace("^", "")), fault(marked, kind));
    }

    void badRule(String marked, int kind) {
        due("rule '" + marked + "'", rule(marked.replace("^", "")), fault(marked, kind));
    }

    void goodElection(String text, int stations) {
        due("election '" + text + "'", election(text), stations);
    }

    void goodRule(String text) {
        int number = book.count(2);
        due("rule '" + text + "'", rule(text), number);
    }

    /**
     * Whether a test holds, of a station 0 with stock 0 to 4 and 6 to 9, 5 spoiled, an empty box, where 3 wait,
     * beside a station 1 with stock 20 to 25 where 4 wait, in hour 0.
     */
    void holds(String test, boolean wanted) {
        begin("papers 40;station 0 9;station 20 25;voters 0 3;voters 1 4;spoiled 5");
        enforce("serve 2 if station = 0 and [" + test + "]; serve 1 if station = 1");
        due("who serves by " + test, book.hour(), wanted ? 0 : 1);
    }

    /** What can be asked of the state (papers 0 to 19 alone, so that two of these stay below 512 calls). */
    String state() {
        StringBuilder all = new StringBuilder();
        for (int what = 0; what <= 13; what++) {
            all.append(book.count(what)).append(' ');
        }
        for (int s = 0; s < book.count(1); s++) {
            all.append("| ");
            for (int what = 0; what <= 5; what++) {
                all.append(book.station(s, what)).append(' ');
            }
            for (int other = 0; other < book.count(1); other++) {
                all.append(book.moved(s, other)).append(' ');
            }
            for (int what = 0; what <= 2; what++) {
                all.append(book.told(s, what)).append(' ');
            }
        }
        for (int p = 0; p < 20 && p < book.count(0); p++) {
            all.append(", ").append(book.paper(p, 0)).append(book.paper(p, 1)).append(' ');
            all.append(book.paper(p, 2)).append(' ').append(book.way(p, 0));
        }
        return all.toString();
    }

    void same(String what, String before) {
        asked++;
        String now = state();
        if (!now.equals(before)) {
            complain(what + ": was " + before + "\n   is " + now);
        }
    }

    /** Calls that are refused: each answer is the one that is due, and all stays. */
    void refused(String call, int want, java.util.function.IntSupplier... calls) {
        String before = state();
        for (int i = 0; i < calls.length; i++) {
            due(call + ", call " + i, calls[i].getAsInt(), want);
        }
        same(call, before);
    }
}
