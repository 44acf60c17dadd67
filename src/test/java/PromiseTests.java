/** For each promise of the document ordinary calls, the edges that it names, and wrong ones, worked out by hand. */
public final class PromiseTests {
    private static final int NONE = BallotBook.NONE;
    private static final String THREE =
            "papers 20;station 0 9;station 10 14;station 16 18;voters 0 4;voters 1 2;spoiled 12";
    private static int wrong = 0;
    private static int asked = 0;
    private static int promise = 0;

    private static void due(String call, int got, int want) {
        asked++;
        if (got != want) {
            wrong++;
            System.out.println("promise " + promise + ": " + call + " answered " + got + ", due is " + want);
        }
    }

    private static void put(BallotBook book, String text) {
        int length = book.count(13) + text.length();
        for (int i = 0; i < text.length(); i += 20) {
            int[] w = new int[5];
            for (int k = 0; k < 20; k++) {
                w[k / 4] = w[k / 4] << 8 | (i + k < text.length() ? text.charAt(i + k) : 0);
            }
            book.feed(w[0], w[1], w[2], w[3], w[4]);
        }
        book.end(length);
    }

    private static int election(BallotBook book, String text) {
        put(book, text);
        return book.election();
    }

    private static int rule(BallotBook book, String text) {
        put(book, text);
        return book.rule();
    }

    private static int fault(int place, int kind) {
        return -2 - (1 + 8 * place + kind);
    }

    private static BallotBook book(String text) {
        BallotBook book = new BallotBook();
        election(book, text);
        return book;
    }

    private static void hours(BallotBook book, int n) {
        for (int i = 0; i < n; i++) {
            book.hour();
        }
    }

    private static void tellAll(BallotBook book, int station, int stock, int box, int spoiled) {
        book.tell(station, 0, stock);
        book.tell(station, 1, box);
        book.tell(station, 2, spoiled);
    }

    public static void main(String[] args) {
        newObject();
        tape();
        elections();
        electionFaults();
        rules();
        ruleFaults();
        ruleValues();
        forces();
        stations();
        papers();
        rowsAndRuns();
        movedAndTold();
        hours();
        moves();
        lendings();
        spoilings();
        sendings();
        tellings();
        undoing();
        ways();
        balances();
        slips();
        slipEdges();
        mustAndFree();
        leaving();
        aheads();
        drySpells();
        mores();
        crowdings();
        restings();
        pennies();
        notings();
        rulings();
        looks();
        draws();
        counts();
        images();
        System.out.println(wrong == 0 ? asked + " answers are as due" : wrong + " answers are not as due");
        if (wrong != 0) {
            System.exit(1);
        }
    }

    private static void newObject() {
        promise = 1;
        BallotBook b = new BallotBook();
        due("NONE", BallotBook.NONE, -1);
        for (int what = 0; what <= 13; what++) {
            due("count " + what, b.count(what), what == 3 ? NONE : 0);
        }
        due("station", b.station(0, 0), NONE);
        due("hour", b.hour(), NONE);
        due("served", b.served(), NONE);
        due("paper", b.paper(0, 0), NONE);
        due("ruled", b.ruled(0), -3);
    }

    private static void tape() {
        promise = 2;
        BallotBook b = new BallotBook();
        for (int i = 1; i <= 20; i++) {
            due("feed", b.feed(0, 0, 0, 0, 0), 20 * i);
        }
        due("feed beyond", b.feed(0, 0, 0, 0, 0), NONE);
        due("bytes", b.count(13), 400);
        promise = 3;
        due("end above", b.end(401), NONE);
        due("end below", b.end(-1), NONE);
        due("bytes", b.count(13), 400);
        due("end all", b.end(400), 400);
        due("end", b.end(381), 381);
        promise = 2;
        due("feed too much", b.feed(0, 0, 0, 0, 0), NONE);
        due("bytes", b.count(13), 381);
        due("end", b.end(380), 380);
        due("feed the last", b.feed(0, 0, 0, 0, 0), 400);
        promise = 3;
        due("end 0", b.end(0), 0);
        due("end above", b.end(1), NONE);
        promise = 2;
        // "papers 7" comes highest byte first, behind blanks
        due("feed", b.feed(0x20202020, 0x70617065, 0x72732037, 0x20202020, 0x20202020), 20);
        due("election", b.election(), 0);
        due("printed", b.count(0), 7);
        due("feed signs above 127", b.feed(-1, -1, -1, -1, -1), 20);
        due("fault", b.election(), fault(0, 0));
    }

    private static void elections() {
        promise = 4;
        BallotBook b = new BallotBook();
        due("election", election(b, THREE), 3);
        due("tape is empty", b.count(13), 0);
        due("printed", b.count(0), 20);
        due("spoiled", b.station(1, 2), 1);
        b.force(NONE);
        b.seed(7);
        b.note(3, 0, 1);
        b.hour();
        b.image(0);
        rule(b, "serve 1");
        b.force(0);
        due("no papers", election(b, ""), fault(0, 0));
        due("printed stays", b.count(0), 20);
        due("notes stay", b.count(10), 1);
        due("acts stay", b.count(11), 1);
        due("hour stays", b.count(4), 1);
        due("another", election(b, "  papers1"), 0);
        due("printed", b.count(0), 1);
        due("no notes", b.count(10), 0);
        due("no acts", b.count(11), 0);
        due("hour", b.count(4), 0);
        due("rule stays in force", b.count(3), 0);
        due("x stays", b.count(12), 7);
        due("image stays", b.back(0), 1);
        due("60 papers", election(b, "papers 60;station 0 59;voters 0 60"), 1);
        due("stock", b.station(0, 0), 60);
        due("voters", b.station(0, 3), 60);
        due("voters told twice", election(b, "papers 3 ;station 0 1 ; voters 0 9;voters 0 00003"), 1);
        due("the last holds", b.station(0, 3), 3);
        due("spoiled twice", election(b, "papers 9;station 0 8;spoiled 7;spoiled 2;spoiled 7"), 1);
        due("spoiled ones", b.station(0, 2), 2);
        due("the least first", b.row(0, 2, 0), 2);
        due("then", b.row(0, 2, 1), 7);
        due("five", election(b, "papers 5;station 4 4;station 0 0;station 1 1;station 2 2;station 3 3"), 5);
        due("order told", b.paper(4, 0), 0);
        StringBuilder forty = new StringBuilder("papers 1;station 0 0");
        for (int i = 2; i < 40; i++) {
            forty.append(";voters 0");
            forty.append(' ').append(i % 10);
        }
        due("forty clauses are 438 bytes: cut", forty.length() > 400 ? 1 : 0, 1);
        StringBuilder many = new StringBuilder("papers1;station0 0");
        for (int i = 2; i < 40; i++) {
            many.append(";spoiled0");
        }
        due("forty clauses", election(b, many.toString()), 1);
        due("one more", election(b, many + ";voters0 1"), fault(many.length() + 1, 4));
        due("one more, no word", election(b, many + "; voter"), fault(many.length() + 2, 0));
        due("one more, the end", election(b, many + ";"), fault(many.length() + 1, 0));
    }

    private static void electionFaults() {
        promise = 4;
        BallotBook b = new BallotBook();
        due("no number", election(b, "papers"), fault(6, 0));
        due("blanks behind", election(b, "papers   "), fault(9, 0));
        due("0", election(b, "papers 0"), fault(7, 1));
        due("61", election(b, "papers 61"), fault(7, 1));
        due("6 digits", election(b, "papers 000001"), fault(7, 1));
        due("5 digits", election(b, "papers 00001"), 0);
        due("station first", election(b, "station 0 0"), fault(0, 4));
        due("voters first", election(b, "  voters 0 0"), fault(2, 4));
        due("papers twice", election(b, "papers 2;papers 2"), fault(9, 4));
        due("from", election(b, "papers 2;station 2 2"), fault(17, 1));
        due("to below", election(b, "papers 2;station 1 0"), fault(19, 1));
        due("to above", election(b, "papers 2;station 0 2"), fault(19, 1));
        due("from another one's", election(b, "papers 4;station 0 1;station 1 2"), fault(29, 1));
        due("to another one's", election(b, "papers 4;station 2 2;station 1 3"), fault(31, 1));
        due("no station", election(b, "papers 2;voters 0 1"), fault(16, 1));
        due("voters", election(b, "papers 2;station 0 0;voters 0 61"), fault(30, 1));
        due("spoiled", election(b, "papers 2;spoiled 0"), fault(17, 1));
        due("spoiled beyond", election(b, "papers 2;station 0 0;spoiled 1"), fault(29, 1));
        due("spoiled beyond", election(b, "papers 2;station 0 1;spoiled 2"), fault(29, 1));
        due("word goes on", election(b, "paperss 2"), fault(0, 0));
        due("the end", election(b, "papers 2;"), fault(9, 0));
        due("one number more", election(b, "papers 2 1"), fault(9, 0));
        due("nought", election(b, "papers 2" + (char) 0), fault(8, 0));
        due("great letters", election(b, "Papers 2"), fault(0, 0));
        due("two signs", election(b, "papers 2;;"), fault(9, 0));
        due("one number alone", election(b, "papers 22;station 12"), fault(20, 0));
        due("a sixth", election(b, "papers 9;station 0 0;station 1 1;station 2 2;station 3 3;station 4 4;station 5 5"),
                fault(69, 4));
        due("nothing stands", b.count(1), 0);
        due("printed of the last right one", b.count(0), 1);
    }

    private static void rules() {
        promise = 5;
        BallotBook b = new BallotBook();
        due("rule", rule(b, "serve 1"), 0);
        due("with a fault", rule(b, "serve"), fault(5, 0));
        due("tape is empty", b.count(13), 0);
        due("words close by", rule(b, "serve1if2<3and4>=5or not[1=1]"), 1);
        due("twelve", rule(b, "serve 1;serve 1;serve 1;serve 1;serve 1;serve 1;serve 1;serve 1;serve 1;serve 1;"
                + "serve 1;serve 1"), 2);
        due("all words", rule(b, "serve station+waiting+stock+box+spoiled+next+runs+crowd+left+hour"), 3);
        due("ten deep", rule(b, "serve 1 if not[not[not[not[not[1<2]]]]]"), 4);
        due("sixth", rule(b, "serve 1 if [1<2] and not 2<1 or [1=1 and 2=2]"), 5);
        put(b, "serve 1");
        due("a seventh", b.rule(), NONE);
        due("the tape stays", b.count(13), 7);
        due("rules", b.count(2), 6);
    }

    private static void ruleFaults() {
        promise = 5;
        BallotBook b = new BallotBook();
        due("empty", rule(b, ""), fault(0, 0));
        due("if alone", rule(b, "serve 1 if"), fault(10, 0));
        due("serves", rule(b, "serves 1"), fault(0, 0));
        due("word", rule(b, "serve x"), fault(6, 0));
        due("the end", rule(b, "serve 1;"), fault(8, 0));
        due("bracket", rule(b, "serve 1 if left = 1]"), fault(19, 0));
        due("open bracket", rule(b, "serve 1 if [left = 1"), fault(20, 0));
        due("operation", rule(b, "serve 5 %"), fault(9, 0));
        due("parted sign", rule(b, "serve 1 if 1 < = 2"), fault(15, 0));
        due("turned sign", rule(b, "serve 1 if 1 =< 2"), fault(14, 0));
        due("no sign", rule(b, "serve 1 if stock"), fault(16, 0));
        due("or behind a sum", rule(b, "serve 1 or 2"), fault(8, 0));
        due("iff", rule(b, "serve 1 iff 1=1"), fault(8, 0));
        due("minus", rule(b, "serve - 1"), fault(6, 0));
        due("keyword", rule(b, "serve not"), fault(6, 0));
        due("digits", rule(b, "serve 1+ 100000"), fault(9, 1));
        due("eleven brackets", rule(b, "serve 1 if [[[[[[[[[[[1=1]]]]]]]]]]]"), fault(21, 2));
        due("eleven nots", rule(b, "serve 1 if not not not not not not not not not not not 1=1"), fault(51, 2));
        due("eleven, mixed", rule(b, "serve 1 if [[[[[not not not not not[1=1]]]]]]"), fault(35, 2));
        due("thirteen", rule(b, "serve 1;serve 1;serve 1;serve 1;serve 1;serve 1;serve 1;serve 1;serve 1;serve 1;"
                + "serve 1;serve 1; serve 1"), fault(97, 4));
        due("thirteen, no word", rule(b, "serve 1;serve 1;serve 1;serve 1;serve 1;serve 1;serve 1;serve 1;serve 1;"
                + "serve 1;serve 1;serve 1;1"), fault(96, 0));
        StringBuilder sum = new StringBuilder("serve 1");
        for (int i = 1; i < 60; i++) {
            sum.append("+1");
        }
        due("sixty values", rule(b, sum.toString()), 0);
        due("one more", rule(b, sum + "+hour"), fault(sum.length() + 1, 3));
        due("one more of six digits", rule(b, sum + "+123456"), fault(sum.length() + 1, 1));
        due("one more, no word", rule(b, sum + "+xx"), fault(sum.length() + 1, 0));
        String less = sum.substring(0, sum.length() - 4);
        due("value, fact, value", rule(b, less + " if 1 < 2"), fault(less.length() + 8, 3));
        due("fact at its sign", rule(b, less + "+1 if 1 >= 2"), fault(less.length() + 8, 3));
        due("just so many", rule(b, less.substring(0, less.length() - 2) + " if 1 < 2"), 1);
        due("facts count over clauses", rule(b, less + " ; serve 1 ; serve 1;serve 1"), fault(less.length() + 27, 3));
    }

    /** What a rule gives is seen by which of two stations serves: 0 if its worth is not below 50. */
    private static boolean servesFirst(String sum) {
        BallotBook b = book("papers 40;station 0 9;station 20 25;voters 0 3;voters 1 4;spoiled 5");
        if (rule(b, "serve 50 if station = 1; serve " + sum) != 0) {
            return false;
        }
        b.force(0);
        b.hour();
        return b.station(0, 3) == 2;
    }

    private static void ruleValues() {
        promise = 13;
        String[] high = {"50", "60-5-4", "100/2", "7*7+1", "1+7*7", "150%100", "50+1/2", "100/7*4", "0-1*0-50+100",
            "99999*99999*99999*99999*99999/0+50", "3%0+50", "stock+41", "waiting*16+2", "box+50", "spoiled*50",
            "next+50", "runs*25", "crowd*7+1", "left*3+5", "hour+50", "station+50",
            "99999 if not 1=2", "1 if 1=2; serve 50", "50 if 1=1 or 1=2 and 1=2", "50 if [1=2 or 1=1] and 2>=2",
            "50 if not 1=2 and 1<2", "50 if 3<=3 and not 3<3 and not 3>3", 
            "50 if 99999*99999*99999*99999/99999/99999/99999 < 10000",
            "50 if 99999*99999*99999*9227 < 0", "50 if 99999*99999*99999*9227%10 + 3 = 0",
            "50 if 99999*99999*99999*9227/99999%10 + 2 = 0"};
        for (String sum : high) {
            due(sum, servesFirst(sum) ? 1 : 0, 1);
        }
        StringBuilder deep = new StringBuilder("50 if ");
        for (int i = 0; i < 10; i++) {
            deep.append(i < 7 ? "1=2 or 1=1 and[" : "1=2 or[");
        }
        due("deep", servesFirst(deep + "1=1]]]]]]]]]]") ? 1 : 0, 1);
        due("deep", servesFirst(deep + "1=2]]]]]]]]]]") ? 1 : 0, 0);
        String[] low = {"49", "0-100", "60-5-6", "50/3*3", "1 if 1=1; serve 99", "stock+40", "waiting*16+1",
            "spoiled*49", "runs*24", "crowd*7", "left*3+4", "50 if [1=1 or 1=2] and 1=2", "50 if not [1=1 or 1=2]",
            "50 if not 1=1", "(1)", "50 if 2<1 or 2<=1 or 2=1 or 1>=2 or 1>2", "0-7/2-100"};
        for (String sum : low) {
            due(sum, servesFirst(sum) ? 1 : 0, 0);
        }
    }

    private static void forces() {
        promise = 6;
        BallotBook b = book(THREE);
        due("none such", b.force(0), -2);
        due("none", b.force(NONE), NONE);
        rule(b, "serve 1");
        rule(b, "serve station");
        due("none such", b.force(2), -2);
        due("below", b.force(-2), -2);
        due("nothing happened", b.count(3), NONE);
        due("force", b.force(1), NONE);
        due("another", b.force(0), 1);
        due("none", b.force(NONE), 0);
        b.force(1);
        due("by the rule", b.hour(), 1);
        b.force(NONE);
        due("without", b.hour(), 0);
    }

    private static void stations() {
        promise = 7;
        BallotBook b = book(THREE);
        int[] want = {4, 0, 1, 2, 5, 0, NONE};
        for (int what = 0; what < 7; what++) {
            due("station 1 " + what, b.station(1, what), want[what]);
        }
        due("below", b.station(1, -1), NONE);
        due("no station", b.station(3, 0), NONE);
        due("no station", b.station(-1, 0), NONE);
        b.recount(1);
        due("recounted", b.station(1, 5), 1);
        due("not recounted", b.station(0, 5), 0);
        b.lend(1, 0, 2);
        due("told to have stays", b.station(1, 4), 5);
    }

    private static void papers() {
        promise = 8;
        BallotBook b = book(THREE);
        due("station", b.paper(13, 0), 1);
        due("in stock", b.paper(13, 1), 0);
        due("two are less", b.paper(13, 2), 2);
        due("spoiled", b.paper(12, 1), 2);
        due("place", b.paper(12, 2), 0);
        due("no station's", b.paper(15, 0), NONE);
        due("no paper", b.paper(20, 0), NONE);
        due("below", b.paper(-1, 0), NONE);
        due("beyond", b.paper(60, 0), NONE);
        due("what", b.paper(13, 3), NONE);
        due("what", b.paper(13, -1), NONE);
        hours(b, 5);
        due("in the box", b.paper(4, 1), 1);
        due("place in the box", b.paper(4, 2), 3);
        due("spoiled behind", b.paper(10, 2), 1);
        due("in stock", b.paper(5, 2), 0);
    }

    private static void rowsAndRuns() {
        promise = 9;
        BallotBook b = book(THREE);
        hours(b, 5);
        due("first", b.row(0, 1, 0), 0);
        due("last", b.row(0, 1, 3), 4);
        due("behind it", b.row(0, 1, 4), NONE);
        due("below", b.row(0, 1, -1), NONE);
        due("spoiled", b.row(1, 2, 0), 12);
        due("spoiled", b.row(1, 2, 1), 10);
        due("stock is no row", b.row(1, 0, 0), NONE);
        due("what", b.row(1, 3, 0), NONE);
        due("no station", b.row(3, 1, 0), NONE);
        promise = 10;
        due("runs", b.runs(1, NONE, 99), 1);
        due("first", b.runs(1, 0, 0), 13);
        due("last", b.runs(1, 0, 1), 14);
        due("no run", b.runs(1, 1, 0), -2);
        due("below", b.runs(1, -2, 0), -2);
        due("what", b.runs(1, 0, 2), -2);
        due("what", b.runs(1, 0, -1), -2);
        due("no station", b.runs(3, NONE, 0), -2);
        b.spoil(7);
        due("two runs", b.runs(0, NONE, 0), 2);
        due("first", b.runs(0, 0, 0), 5);
        due("last", b.runs(0, 0, 1), 6);
        due("first", b.runs(0, 1, 0), 8);
        due("last", b.runs(0, 1, 1), 9);
        b.lend(2, 0, 3);
        due("none", b.runs(2, NONE, 0), 0);
        due("none", b.runs(2, 0, 0), -2);
        BallotBook all = book("papers 60;station 0 59");
        due("one run", all.runs(0, NONE, 0), 1);
        due("its last", all.runs(0, 0, 1), 59);
    }

    private static void movedAndTold() {
        promise = 11;
        BallotBook b = book(THREE);
        due("nothing", b.moved(0, 1), 0);
        b.lend(0, 1, 3);
        hours(b, 2);
        b.move(0, 1, 2);
        due("both", b.moved(0, 1), 5);
        due("not back", b.moved(1, 0), 0);
        due("alike", b.moved(1, 1), NONE);
        due("no station", b.moved(0, 3), NONE);
        due("no station", b.moved(-1, 0), NONE);
        promise = 12;
        due("nothing", b.told(0, 0), -2);
        b.tell(0, 0, 60);
        due("told", b.told(0, 0), 60);
        due("nothing", b.told(0, 1), -2);
        due("what", b.told(0, 3), NONE);
        due("what", b.told(0, -1), NONE);
        due("no station", b.told(3, 0), NONE);
        b.recount(1);
        due("stock", b.told(1, 0), 7);
        due("box", b.told(1, 1), 2);
        due("spoiled", b.told(1, 2), 1);
    }

    private static void hours() {
        promise = 13;
        BallotBook b = new BallotBook();
        due("without", b.hour(), NONE);
        election(b, THREE);
        int[] want = {0, 0, 0, 0, 1, 1, -2, -2};
        for (int i = 0; i < want.length; i++) {
            due("hour " + i, b.hour(), want[i]);
        }
        due("hours", b.count(4), 8);
        due("box", b.station(0, 1), 4);
        due("spoiled", b.row(0, 2, 0), 3);
        due("box", b.row(1, 1, 1), 13);
        due("stock", b.station(1, 0), 1);
        BallotBook last = book("papers 11;station 3 3;station 10 10;voters 0 1;voters 1 1");
        due("the last one is spoiled", last.hour(), 0);
        due("the voter waits on", last.station(0, 3), 1);
        due("spoiled", last.station(0, 2), 1);
        due("box", last.station(0, 1), 0);
        due("the other one", last.hour(), 1);
        due("none can", last.hour(), -2);
        BallotBook twice = book("papers 11;station 3 3;station 10 10;voters 0 1");
        twice.lend(1, 0, 1);
        twice.hour();
        due("in its place, whatever its rest", twice.row(0, 1, 0), 10);
        BallotBook none = book("papers 3");
        due("no stations", none.hour(), -2);
        due("an hour is gone", none.count(4), 1);
        BallotBook by = book("papers 9;station 0 2;station 3 5;station 6 8;voters 0 2;voters 1 2;voters 2 2");
        rule(by, "serve 0-1");
        rule(by, "serve 5 if station > 0");
        rule(by, "serve waiting");
        by.force(0);
        due("not above 0", by.hour(), -2);
        by.force(1);
        due("of several the least", by.hour(), 1);
        due("and again", by.hour(), 1);
        due("who can't serve is out", by.hour(), 2);
        by.force(2);
        due("most wait", by.hour(), 0);
        due("alike: the least", by.hour(), 0);
    }

    private static void moves() {
        promise = 14;
        BallotBook b = book(THREE);
        hours(b, 5);
        due("too many", b.move(0, 1, 5), NONE);
        due("0", b.move(0, 1, 0), NONE);
        due("alike", b.move(0, 0, 1), NONE);
        due("no station", b.move(0, 3, 1), NONE);
        due("no station", b.move(-1, 0, 1), NONE);
        due("nothing happened", b.count(11), 5);
        due("move", b.move(0, 1, 2), 3);
        due("row", b.row(1, 1, 0), 11);
        due("row", b.row(1, 1, 1), 0);
        due("row", b.row(1, 1, 2), 1);
        due("rest", b.row(0, 1, 0), 2);
        due("moved", b.moved(0, 1), 2);
        due("all", b.move(1, 2, 3), 3);
        due("empty", b.station(1, 1), 0);
        BallotBook many = book("papers 60;station 50 59;station 0 2;station 11 19;voters 0 9");
        hours(many, 9);
        many.spoil(59);
        many.find(59);
        due("ten in the box", many.station(0, 1), 9);
        due("ten", many.move(0, 1, 10), NONE);
        due("nine", many.move(0, 1, 9), 9);
    }

    private static void lendings() {
        promise = 15;
        BallotBook b = book(THREE);
        due("lend", b.lend(0, 2, 2), 5);
        due("the greatest", b.paper(9, 0), 2);
        due("and the next", b.paper(8, 0), 2);
        due("not more", b.paper(7, 0), 0);
        due("in stock", b.paper(9, 1), 0);
        due("place", b.paper(9, 2), 1);
        due("moved", b.moved(0, 2), 2);
        due("too many", b.lend(1, 2, 5), NONE);
        due("ten", b.lend(0, 2, 10), NONE);
        due("0", b.lend(0, 2, 0), NONE);
        due("below", b.lend(0, 2, -1), NONE);
        due("alike", b.lend(1, 1, 1), NONE);
        due("no station", b.lend(3, 1, 1), NONE);
        due("no station", b.lend(1, 3, 1), NONE);
        due("nothing happened", b.count(11), 1);
        due("all", b.lend(1, 0, 4), 12);
        due("spoiled stays", b.paper(12, 0), 1);
    }

    private static void spoilings() {
        promise = 16;
        BallotBook b = book(THREE);
        hours(b, 5);
        due("of a stock", b.spoil(14), 3);
        due("of a box", b.spoil(11), 4);
        due("behind all", b.row(1, 2, 3), 11);
        due("box", b.station(1, 1), 0);
        due("stock", b.station(1, 0), 1);
        due("spoiled already", b.spoil(12), NONE);
        due("no paper", b.spoil(15), NONE);
        due("below", b.spoil(-1), NONE);
        due("beyond", b.spoil(60), NONE);
        due("acts", b.count(11), 7);
        promise = 17;
        due("find", b.find(10), 1);
        due("find", b.find(12), 2);
        due("row", b.row(1, 1, 0), 10);
        due("row", b.row(1, 1, 1), 12);
        due("spoiled", b.row(1, 2, 0), 14);
        due("not spoiled", b.find(10), NONE);
        due("in stock", b.find(13), NONE);
        due("no paper", b.find(19), NONE);
        due("below", b.find(-5), NONE);
        due("acts", b.count(11), 9);
    }

    private static void sendings() {
        promise = 18;
        BallotBook b = book("papers 4;station 0 0;station 1 1;voters 0 12;voters 1 60");
        due("send", b.send(0, 1, 9), 69);
        due("rest", b.station(0, 3), 3);
        due("too many", b.send(0, 1, 4), NONE);
        due("ten", b.send(1, 0, 10), NONE);
        due("0", b.send(1, 0, 0), NONE);
        due("alike", b.send(1, 1, 1), NONE);
        due("no station", b.send(0, 2, 1), NONE);
        due("all", b.send(0, 1, 3), 72);
        due("moved is of papers", b.moved(0, 1), 0);
        due("acts", b.count(11), 2);
    }

    private static void tellings() {
        promise = 19;
        BallotBook b = book(THREE);
        due("one", b.tell(0, 1, 0), 1);
        due("again", b.tell(0, 1, 0), 1);
        due("two", b.tell(0, 0, 60), 2);
        due("three", b.tell(0, 2, 5), 3);
        due("61", b.tell(0, 0, 61), NONE);
        due("below", b.tell(0, 0, -1), NONE);
        due("what", b.tell(0, 3, 1), NONE);
        due("what", b.tell(0, -1, 1), NONE);
        due("no station", b.tell(3, 0, 1), NONE);
        due("acts", b.count(11), 4);
        due("stays", b.told(0, 0), 60);
        promise = 20;
        due("recount", b.recount(0), 1);
        due("as it is", b.told(0, 0), 10);
        due("twice", b.recount(0), NONE);
        due("no station", b.recount(3), NONE);
        due("no station", b.recount(-1), NONE);
        due("two", b.recount(2), 2);
        due("spoiled", b.told(2, 2), 0);
        promise = 19;
        due("recounted", b.tell(0, 0, 1), NONE);
        promise = 20;
        b.lend(0, 1, 1);
        due("told as it was then", b.told(0, 0), 10);
    }

    private static void undoing() {
        promise = 21;
        BallotBook b = book(THREE);
        due("none", b.undo(), NONE);
        hours(b, 5);
        b.move(0, 2, 1);
        b.lend(0, 2, 1);
        b.send(0, 1, 9);
        b.tell(1, 0, 3);
        b.recount(2);
        b.spoil(13);
        b.find(12);
        b.note(4, 1, 1);
        b.seed(5);
        due("eleven act", b.count(11), 11);
        due("undo find", b.undo(), 10);
        due("spoiled", b.paper(12, 1), 2);
        due("its place", b.paper(12, 2), 0);
        due("undo spoil", b.undo(), 9);
        due("stock", b.paper(13, 1), 0);
        due("undo recount", b.undo(), 8);
        due("not recounted", b.station(2, 5), 0);
        due("nothing told", b.told(2, 0), -2);
        due("undo tell", b.undo(), 7);
        due("nothing told", b.told(1, 0), -2);
        due("undo lend", b.undo(), 6);
        due("back", b.paper(9, 0), 0);
        due("no way", b.way(9, 0), 0);
        due("not moved", b.moved(0, 2), 1);
        due("undo move", b.undo(), 5);
        due("the first again", b.row(0, 1, 0), 0);
        due("undo an hour", b.undo(), 4);
        due("hour", b.count(4), 4);
        due("stock", b.paper(10, 1), 0);
        due("waits", b.station(1, 3), 2);
        due("notes stay", b.count(10), 1);
        due("x stays", b.count(12), 5);
        BallotBook many = book("papers 1;station 0 0");
        hours(many, 25);
        due("twenty", many.count(11), 20);
        for (int i = 19; i >= 0; i--) {
            due("undo", many.undo(), i);
        }
        due("no more", many.undo(), NONE);
        due("hour", many.count(4), 5);
    }

    private static void ways() {
        promise = 22;
        BallotBook b = book("papers 9;station 0 0;station 1 1;station 2 8;voters 0 1");
        due("none", b.way(0, 0), 0);
        due("none kept", b.way(0, 1), -2);
        b.lend(0, 1, 1);
        b.lend(1, 2, 1);
        due("moved to station 2", b.paper(1, 0), 2);
        due("one", b.way(1, 0), 1);
        due("where", b.way(1, 1), 2);
        b.lend(1, 0, 1);
        due("two", b.way(0, 0), 2);
        due("first", b.way(0, 1), 1);
        due("second", b.way(0, 2), 0);
        due("third", b.way(0, 3), -2);
        b.hour();
        b.move(0, 2, 1);
        due("three", b.way(0, 0), 3);
        due("third", b.way(0, 3), 2);
        for (int i = 0; i < 6; i++) {
            b.move(2, 1, 1);
            b.move(1, 0, 1);
            b.move(0, 2, 1);
        }
        due("twelve at most", b.way(0, 0), 12);
        due("twelfth", b.way(0, 12), 2);
        due("eleventh", b.way(0, 11), 0);
        due("thirteenth", b.way(0, 13), -2);
        due("far", b.way(0, Integer.MAX_VALUE), -2);
        due("below", b.way(0, -1), NONE);
        due("no paper", b.way(9, 0), NONE);
        due("no paper", b.way(-1, 0), NONE);
        b.spoil(0);
        due("spoiling is no step", b.way(0, 0), 12);
    }

    private static void balances() {
        promise = 23;
        BallotBook b = book(THREE);
        due("nothing told", b.balance(0), -2);
        b.tell(0, 0, 6);
        b.tell(0, 1, 2);
        due("not all told", b.balance(0), -2);
        b.tell(0, 2, 1);
        due("one is missing", b.balance(0), 1001);
        b.lend(0, 1, 3);
        due("moved away", b.balance(0), 998);
        tellAll(b, 1, 7, 0, 1);
        due("moved there", b.balance(1), 1000);
        due("no station", b.balance(3), NONE);
        due("no station", b.balance(-1), NONE);
        tellAll(b, 2, 60, 60, 60);
        due("far too many", b.balance(2), 1003 - 180);
    }

    private static void slips() {
        promise = 24;
        BallotBook b = new BallotBook();
        due("no stations", b.slips(0), -3);
        election(b, "papers 3");
        due("no stations", b.slips(0), -3);
        election(b, "papers 40;station 0 19;station 20 39");
        due("what", b.slips(5), -3);
        due("what", b.slips(-1), -3);
        due("not told", b.slips(0), -2);
        tellAll(b, 0, 20, 0, 0);
        due("not all told", b.slips(0), -2);
        tellAll(b, 1, 20, 0, 0);
        due("none", b.slips(0), 0);
        due("no tens", b.slips(1), 0);
        due("none of moved", b.slips(2), 0);
        due("tens", b.slips(3), 100);
        // 0 misses 1, 1 has 1 too many: one slip of moved in place of two of their own
        b.tell(0, 0, 19);
        b.tell(1, 0, 21);
        due("one", b.slips(0), 1);
        due("of moved", b.slips(2), 1);
        // 0 misses 9: a ten more, and one less, are two
        b.tell(0, 0, 11);
        b.tell(1, 0, 20);
        due("two", b.slips(0), 2);
        due("a ten", b.slips(1), 1);
        due("ten more", b.slips(3), 101);
        due("none there", b.slips(4), 100);
        due("none of moved", b.slips(2), 0);
        // 5 and 5 missing: a ten at either one and five slips of moved; the first is the one with no ten at 0
        b.tell(0, 0, 15);
        b.tell(1, 0, 15);
        due("six", b.slips(0), 6);
        due("a ten", b.slips(1), 1);
        due("of moved", b.slips(2), 5);
        due("0 has none", b.slips(3), 100);
        due("1 has it", b.slips(4), 101);
        // 10 too many there, 10 missing here: two tens
        b.tell(0, 0, 30);
        b.tell(1, 0, 10);
        due("two", b.slips(0), 2);
        due("tens", b.slips(1), 2);
        due("less", b.slips(3), 99);
        due("more", b.slips(4), 101);
    }

    private static void slipEdges() {
        promise = 24;
        BallotBook b = book("papers 10;station 0 9");
        // 35 too many: three tens less at most, and five ones
        tellAll(b, 0, 45, 0, 0);
        due("eight", b.slips(0), 8);
        due("three tens", b.slips(1), 3);
        due("less", b.slips(3), 97);
        // 45 too many: three tens and 15 ones
        b.tell(0, 0, 55);
        due("eighteen", b.slips(0), 18);
        // 5 missing: fewest tens of equal ways? five ones, or a ten and five ones: five
        b.tell(0, 0, 5);
        due("five", b.slips(0), 5);
        due("no tens", b.slips(1), 0);
        BallotBook r = book("papers 20;station 0 9;station 10 19");
        r.recount(0);
        tellAll(r, 1, 10, 0, 0);
        r.lend(0, 1, 2);
        // 0 was recounted with 10 and has 8, 1 told 10 and has 12: two slips of moved
        due("two", r.slips(0), 2);
        due("of moved", r.slips(2), 2);
        r.recount(1);
        due("by no number", r.slips(0), -2);
        promise = 25;
        due("by no number", r.must(), -2);
        promise = 26;
        due("by no number", r.free(), -2);
        promise = 24;
        BallotBook f = book("papers 20;station 0 9;station 10 19");
        f.recount(0);
        f.lend(0, 1, 2);
        tellAll(f, 1, 12, 0, 0);
        // the recounted one has 2 less than told: two slips of moved, and two ones at the other one
        due("four", f.slips(0), 4);
        due("of moved", f.slips(2), 2);
        due("tens", f.slips(1), 0);
        BallotBook five = book("papers 50;station 0 9;station 10 19;station 20 29;station 30 39;station 40 49");
        for (int s = 0; s < 5; s++) {
            tellAll(five, s, s == 4 ? 1 : 10, 0, 0);
        }
        due("two", five.slips(0), 2);
        due("ten more", five.slips(7), 101);
        due("no sixth", five.slips(8), -3);
        five.lend(4, 0, 2);
        due("0 tells 2 less, 4 7 less", five.balance(0) * 10000 + five.balance(4), 10021007);
        due("a ten, two of moved, a one", five.slips(0), 4);
        due("of moved", five.slips(2), 2);
        promise = 25;
        due("4 must", five.must(), 16);
        promise = 24;
    }

    private static void mustAndFree() {
        promise = 25;
        BallotBook b = new BallotBook();
        due("no stations", b.must(), -3);
        election(b, "papers 30;station 0 9;station 10 19;station 20 29");
        due("not told", b.must(), -2);
        promise = 26;
        due("not told", b.free(), -2);
        due("no stations", new BallotBook().free(), -3);
        for (int s = 0; s < 3; s++) {
            tellAll(b, s, 10, 0, 0);
        }
        promise = 25;
        due("none must", b.must(), 0);
        promise = 26;
        due("all are free", b.free(), 7);
        b.tell(1, 0, 9);
        promise = 25;
        due("1 must", b.must(), 2);
        promise = 26;
        due("0 and 2 are free", b.free(), 5);
        b.tell(0, 0, 11);
        promise = 25;
        due("by moved", b.must(), 0);
        b.tell(2, 0, 9);
        // 0 has one too many, 1 and 2 miss one each: either of these closes with 0, the other one slips
        due("1 or 2", b.must(), 0);
        promise = 26;
        due("1 or 2", b.free(), 7);
        b.recount(2);
        promise = 25;
        due("by moved", b.must(), 0);
        b.tell(0, 0, 12);
        due("0 must", b.must(), 1);
        promise = 26;
        due("recounted ones are free", b.free(), 6);
    }

    private static void leaving() {
        promise = 27;
        BallotBook b = book("papers 30;station 0 9;station 10 19;station 20 29");
        due("not told", b.leaves(0), -2);
        tellAll(b, 1, 12, 0, 0);
        tellAll(b, 2, 9, 0, 0);
        due("all others told", b.leaves(0), 2);
        due("not all others", b.leaves(1), -2);
        tellAll(b, 0, 7, 0, 0);
        due("four and two of moved", b.slips(0), 4);
        due("0", b.leaves(0), 2);
        due("1", b.leaves(1), 4);
        due("2", b.leaves(2), 3);
        due("no station", b.leaves(3), NONE);
        due("no station", b.leaves(-1), NONE);
        b.recount(1);
        due("recounted", b.leaves(1), NONE);
        b.recount(0);
        b.lend(0, 1, 1);
        b.undo();
        due("all right", b.leaves(2), 0);
        b.lend(0, 2, 1);
        due("by no number", b.leaves(2), -2);
    }

    private static void aheads() {
        promise = 28;
        BallotBook b = book(THREE);
        due("now", b.ahead(0, 0, 0), 10);
        due("stock", b.ahead(0, 4, 0), 5);
        due("box", b.ahead(0, 4, 1), 4);
        due("spoiled", b.ahead(0, 4, 2), 1);
        due("waits", b.ahead(0, 3, 3), 1);
        due("100", b.ahead(1, 100, 1), 2);
        due("101", b.ahead(1, 101, 1), NONE);
        due("below", b.ahead(1, -1, 1), NONE);
        due("what", b.ahead(1, 1, 4), NONE);
        due("what", b.ahead(1, 1, -1), NONE);
        due("no station", b.ahead(3, 1, 0), NONE);
        due("nothing changes", b.count(4), 0);
        rule(b, "serve waiting if hour >= 2");
        b.force(0);
        due("by the rule", b.ahead(0, 3, 1), 1);
        due("none ahead of it", b.ahead(0, 2, 1), 0);
    }

    private static void drySpells() {
        promise = 29;
        BallotBook b = book("papers 20;station 0 2;station 3 3;station 4 9;voters 0 5;voters 1 1;voters 2 2");
        due("dry", b.dry(0), 2);
        due("spoils its last", b.dry(1), 3);
        due("never", b.dry(2), -2);
        due("no station", b.dry(3), NONE);
        due("no station", b.dry(-1), NONE);
        hours(b, 3);
        due("dry already: this hour", b.dry(0), 3);
        promise = 30;
        due("never", b.served(), -2);
        BallotBook all = book(THREE);
        due("served", all.served(), 5);
        hours(all, 6);
        due("this hour", all.served(), 6);
        hours(all, 2);
        due("this hour", all.served(), 8);
        due("no stations", book("papers 1").served(), 0);
        due("no election", new BallotBook().served(), NONE);
        BallotBook late = book("papers 2;station 0 1;voters 0 1");
        rule(late, "serve 1 if hour >= 199");
        rule(late, "serve 1 if hour >= 200");
        late.force(0);
        due("the last of 200", late.served(), 199);
        late.force(1);
        due("one too late", late.served(), -2);
        promise = 29;
        BallotBook dry = book("papers 2;station 0 0;voters 0 2");
        rule(dry, "serve 1 if hour >= 199");
        rule(dry, "serve 1 if hour >= 200");
        dry.force(0);
        due("the last of 200", dry.dry(0), 199);
        dry.force(1);
        due("one too late", dry.dry(0), -2);
        dry.hour();
        due("from now on", dry.dry(0), 200);
        due("empty, but nobody waits", book("papers 9;station 0 0;spoiled 0").dry(0), -2);
    }

    private static void mores() {
        promise = 31;
        BallotBook b = book("papers 30;station 0 9;station 11 12;station 13 13;voters 1 6;voters 2 3");
        // 1 serves 11 and 12, 2 serves 13; with 5 9 8 7 6 more 1 serves 5 to 9, 11, so four more than without
        due("which", b.more(0, 60, 0), 1);
        due("how many", b.more(0, 60, 1), 2);
        due("one hour: none is as good", b.more(0, 1, 0), NONE);
        due("how many", b.more(0, 1, 1), 8);
        due("n 0", b.more(0, 0, 0), -2);
        due("n 61", b.more(0, 61, 0), -2);
        due("what", b.more(0, 1, 2), -2);
        due("what", b.more(0, 1, -1), -2);
        due("no station", b.more(3, 1, 0), -2);
        due("1 gets one more, 2 one less", b.more(2, 60, 0), NONE);
        due("nothing moved", b.moved(0, 1), 0);
        due("nothing changes", b.station(0, 0), 10);
        BallotBook alike = book("papers 30;station 0 4;station 5 5;station 7 7;voters 1 4;voters 2 4");
        due("alike: the least", alike.more(0, 60, 0), 1);
        // 0 gets 15 to 19 and puts 0 15 16 18 19 into its box
        BallotBook five = book("papers 30;station 0 0;station 10 19;voters 0 9");
        due("to the first one", five.more(1, 60, 0), 0);
        due("just five", five.more(1, 60, 1), 4);
        BallotBook few = book("papers 30;station 0 1;station 5 5;voters 1 4");
        due("all it has", few.more(0, 60, 0), 1);
        due("how many", few.more(0, 60, 1), 1);
        BallotBook empty = book("papers 9;station 0 0;station 1 1;voters 1 4;spoiled 0");
        due("nothing to have", empty.more(0, 5, 0), NONE);
        due("how many", empty.more(0, 5, 1), 3);
    }

    private static void crowdings() {
        promise = 32;
        BallotBook b = book("papers 40;station 0 19;station 20 39;voters 0 4;voters 1 3");
        due("no notes: all", b.crowds(0, 0), 61);
        due("the least", b.crowds(0, 1), 0);
        hours(b, 3);
        b.note(6, 1, 2);
        // without a rule 0 goes first: behind hour 6 seven are served, so 1 served two if 0 had five
        due("how many", b.crowds(0, 0), 1);
        due("five", b.crowds(0, 1), 5);
        due("of 1: never, as 0 has four", b.crowds(1, 0), 1);
        due("two", b.crowds(1, 1), 2);
        b.note(0, 1, 1);
        due("none", b.crowds(0, 0), 0);
        due("none", b.crowds(0, 1), -2);
        due("what", b.crowds(0, 2), NONE);
        due("what", b.crowds(0, -1), NONE);
        due("no station", b.crowds(2, 0), NONE);
        b.note(NONE, 0, 0);
        b.note(9, 0, 10);
        due("ten or more", b.crowds(0, 0), 51);
        due("ten", b.crowds(0, 1), 10);
    }

    private static void restings() {
        promise = 33;
        BallotBook b = book("papers 9;station 0 0;station 1 8;voters 0 3");
        due("no station", b.rests(0, 2, 1, 0), NONE);
        due("alike", b.rests(1, 1, 1, 0), NONE);
        due("n 0", b.rests(0, 1, 0, 0), NONE);
        due("n 21", b.rests(0, 1, 21, 0), NONE);
        due("what", b.rests(0, 1, 1, 3), NONE);
        due("what", b.rests(0, 1, 1, -1), NONE);
        // 0 serves one of those who stay (2 and 1 less per who waits): staying all 2 - 2, two 2 - 1, one 2 - 0,
        // none 0; so it sends two, whatever 1 says, who has nobody to send
        due("how many", b.rests(0, 1, 20, 0), 4);
        due("first", b.rests(0, 1, 20, 1), 2);
        due("second", b.rests(0, 1, 20, 2), 0);
        due("the other way", b.rests(1, 0, 20, 1), 0);
        due("the other way", b.rests(1, 0, 20, 2), 2);
        due("nothing changes", b.station(0, 3), 3);
        BallotBook none = book("papers 9;station 0 3;station 4 8");
        due("nobody waits: all", none.rests(0, 1, 5, 0), 16);
        // each would have all wait at the other one; 1 has but two to send
        BallotBook one = book(THREE);
        due("two", one.rests(0, 1, 1, 0), 2);
        due("first", one.rests(0, 1, 1, 1), 3);
        due("second", one.rests(0, 1, 1, 2), 2);
        // 0 would send as many as come, 1 some others
        BallotBook chase = book("papers 30;station 0 0;station 7 8;voters 0 2;voters 1 2");
        rule(chase, "serve waiting");
        chase.force(0);
        due("no rest", chase.rests(0, 1, 1, 0), 0);
        due("no rest", chase.rests(0, 1, 1, 1), -2);
        due("no rest", chase.rests(0, 1, 1, 2), -2);
        due("first", none.rests(0, 1, 5, 1), 0);
    }

    private static void pennies() {
        promise = 34;
        BallotBook b = book("papers 30;station 0 9;station 14 16;station 20 23;voters 0 3;voters 1 2;voters 2 1");
        due("all empty", b.pence(100, 0), 0);
        hours(b, 6);
        due("boxes", b.count(6), 6);
        due("half", b.pence(100, 0), 50);
        due("33 and a third", b.pence(100, 1), 33);
        due("16 and two thirds", b.pence(100, 2), 17);
        due("alike: 1 of 6 parts", b.pence(1, 0), 1);
        due("none", b.pence(1, 1), 0);
        due("nothing", b.pence(0, 0), 0);
        due("most", b.pence(9999, 0), 5000);
        due("10000", b.pence(10000, 0), NONE);
        due("below", b.pence(-1, 0), NONE);
        due("no station", b.pence(1, 3), NONE);
        BallotBook even = book("papers 9;station 0 2;station 4 6;station 7 8;voters 0 1;voters 1 1");
        hours(even, 2);
        due("of several the least", even.pence(5, 0), 3);
        due("the other one", even.pence(5, 1), 2);
        due("an empty box", even.pence(5, 2), 0);
    }

    private static void notings() {
        promise = 35;
        BallotBook b = new BallotBook();
        due("no stations", b.note(0, 0, 0), -2);
        due("none", b.note(NONE, 5, 5), 0);
        election(b, THREE);
        due("n", b.note(61, 0, 0), -2);
        due("n", b.note(-2, 0, 0), -2);
        due("no station", b.note(0, 3, 0), -2);
        due("box", b.note(0, 0, 61), -2);
        due("box", b.note(0, 0, -1), -2);
        for (int i = 1; i <= 10; i++) {
            due("note", b.note(60, 2, 60), i);
        }
        due("an eleventh", b.note(0, 0, 0), -2);
        due("notes", b.count(10), 10);
        due("none", b.note(NONE, 0, 0), 0);
        due("notes", b.count(10), 0);
        due("no act", b.count(11), 0);
    }

    private static BallotBook ruledBook() {
        BallotBook b = book("papers 40;station 0 9;station 11 16;voters 0 5;voters 1 5");
        rule(b, "serve station + 1");
        rule(b, "serve 1 if hour % 2 = station; serve 0");
        rule(b, "serve 0");
        return b;
    }

    private static void rulings() {
        promise = 36;
        BallotBook b = ruledBook();
        due("all, and none", b.ruled(0), 4);
        due("none first", b.ruled(1), NONE);
        b.note(0, 0, 1);
        due("none, and 1", b.ruled(0), 2);
        b.note(1, 1, 1);
        due("1", b.ruled(0), 1);
        due("1", b.ruled(1), 1);
        b.note(5, 1, 0);
        due("none such", b.ruled(0), 0);
        due("none such", b.ruled(1), -2);
        due("what", b.ruled(2), -3);
        due("what", b.ruled(-1), -3);
        due("no election", new BallotBook().ruled(0), -3);
        due("no stations", book("papers 1").ruled(0), 1);
        b.note(NONE, 0, 0);
        hours(b, 4);
        b.send(0, 1, 1);
        b.note(9, 0, 5);
        due("as the text told it", b.ruled(0), 3);
    }

    private static void looks() {
        promise = 37;
        BallotBook b = ruledBook();
        // behind hour 0: box of 0 is 1 0 1 0 (none, 0, 1, 2), of 1 0 1 0 0
        due("0 parts best", b.look(0, 0), 0);
        due("two alike", b.look(0, 1), 2);
        // behind hour 1: of 0 2 0 1 0, of 1 0 2 1 0
        due("both alike: the least", b.look(1, 0), 0);
        due("two alike", b.look(1, 1), 2);
        // none and 1: behind hour 1 0 has 2 or 1
        b.note(0, 0, 1);
        due("parts them", b.look(1, 1), 1);
        due("does not", b.look(0, 1), 2);
        due("n", b.look(61, 0), NONE);
        due("n", b.look(-1, 0), NONE);
        due("60", b.look(60, 1), 2);
        due("what", b.look(0, 2), NONE);
        due("no election", new BallotBook().look(0, 0), NONE);
        due("no stations", book("papers 1").look(0, 0), -2);
        due("no stations", book("papers 1").look(0, 1), -2);
        b.note(0, 0, 0);
        due("no rule is so", b.look(0, 0), -2);
        due("no rule is so", b.look(0, 1), -2);
        BallotBook second = book("papers 40;station 0 9;station 11 16;station 20 29;voters 0 1;voters 1 5;voters 2 5");
        rule(second, "serve 3 - station");
        rule(second, "serve 2 if station = 0; serve station + 5");
        // all serve 0 first? rule 1 serves 2 of worth 7: behind hour 1 box of 0: 1 1 0, of 1: 1 1 0, of 2: 0 0 2
        due("alike: the least", second.look(1, 0), 0);
        due("two alike", second.look(1, 1), 2);
        BallotBook six = book("papers 50;station 0 9;station 10 19;station 20 29;station 30 39;station 40 49;"
                + "voters 0 9;voters 1 9;voters 2 9;voters 3 9;voters 4 9");
        for (int i = 0; i < 6; i++) {
            rule(six, i < 3 ? "serve 1 if station = 4" : "serve 1 if station = 1");
        }
        // 4 serves by three of seven, 1 by three others, 0 by none
        due("all of them", six.look(0, 1), 4);
        due("1 ahead of 4", six.look(0, 0), 1);
        six.note(0, 1, 0);
        due("0 and 4 part them alike", six.look(3, 0), 0);
        due("three alike", six.look(3, 1), 3);
    }

    private static void draws() {
        promise = 38;
        BallotBook b = new BallotBook();
        due("0 at first", b.seed(5), 0);
        due("was", b.seed(Integer.MAX_VALUE), 5);
        due("below 0", b.seed(-1), NONE);
        due("stays", b.count(12), Integer.MAX_VALUE);
        promise = 39;
        due("no election", b.crowded(1, 1, 0, 0), NONE);
        election(b, THREE);
        b.seed(0);
        due("m", b.crowded(0, 1, 1, 0), NONE);
        due("m", b.crowded(11, 1, 1, 0), NONE);
        due("n", b.crowded(1, 0, 1, 0), NONE);
        due("n", b.crowded(1, 61, 1, 0), NONE);
        due("p", b.crowded(1, 1, -1, 0), NONE);
        due("p", b.crowded(1, 1, 101, 0), NONE);
        due("what", b.crowded(1, 1, 1, 2), NONE);
        due("p 0: nobody comes", b.crowded(1, 60, 0, 0), 6);
        due("nobody waits", b.crowded(1, 60, 0, 1), 0);
        due("ten times", b.crowded(10, 60, 0, 0), 60);
        due("one hour each", b.crowded(10, 1, 0, 1), 50);
        due("one comes each hour", b.crowded(3, 2, 100, 1), 3 * (6 + 2 - 2));
        due("x as it was", b.count(12), 0);
        due("nothing stays", b.station(0, 3), 4);
        // x 0: 12345 (draw 0), 1406932606 (draw 21468), 654583775 (draw 9988), 1449466924 (draw 22117)
        BallotBook two = book("papers 9;station 0 3;station 4 8");
        due("draw 0 is below 1, 21468 mod 2 is 0, 0 serves", two.crowded(1, 1, 1, 0), 1);
        two.seed(12345);
        due("68 is not below 68", two.crowded(1, 1, 68, 0), 0);
        due("68 is below 69", two.crowded(1, 1, 69, 0), 1);
        BallotBook full = book("papers 3;station 0 0;voters 0 60;spoiled 0");
        due("99 at most", full.crowded(1, 60, 100, 1), 99);
        due("no stations", book("papers 1").crowded(2, 3, 100, 1), 0);
    }

    private static void counts() {
        promise = 40;
        BallotBook b = book(THREE);
        rule(b, "serve 1");
        rule(b, "serve waiting");
        b.force(1);
        hours(b, 3);
        b.seed(77);
        b.note(0, 0, 0);
        put(b, "papers");
        int[] want = {20, 3, 2, 1, 3, 14, 3, 1, 3, 3, 1, 3, 77, 6, NONE};
        for (int what = 0; what < want.length; what++) {
            due("count " + what, b.count(what), want[what]);
        }
        due("below", b.count(-1), NONE);
        due("min", b.count(Integer.MIN_VALUE), NONE);
    }

    private static void images() {
        promise = 41;
        BallotBook b = new BallotBook();
        due("k", b.image(4), NONE);
        due("k", b.image(-1), NONE);
        due("nothing told", b.image(0), 0);
        promise = 42;
        due("never made", b.back(1), NONE);
        due("k", b.back(4), NONE);
        due("k", b.back(-1), NONE);
        election(b, THREE);
        rule(b, "serve 1");
        rule(b, "serve station");
        b.force(0);
        b.seed(3);
        hours(b, 5);
        b.move(0, 1, 2);
        b.tell(0, 0, 4);
        b.note(1, 0, 2);
        promise = 41;
        due("hour", b.image(3), 5);
        due("acts stay", b.count(11), 7);
        promise = 42;
        due("back to nothing", b.back(0), 0);
        due("no election", b.hour(), NONE);
        due("none in force", b.count(3), NONE);
        due("rules stay", b.count(2), 2);
        due("x", b.count(12), 0);
        election(b, "papers 3;station 0 2");
        put(b, "pap");
        due("back", b.back(3), 5);
        due("tape stays", b.count(13), 3);
        due("stations", b.count(1), 3);
        due("row", b.row(1, 1, 2), 1);
        due("told", b.told(0, 0), 4);
        due("moved", b.moved(0, 1), 2);
        due("way", b.way(0, 1), 1);
        due("in force", b.count(3), 0);
        due("x", b.count(12), 3);
        due("notes", b.count(10), 1);
        due("the begin, too", b.ruled(0), 2);
        due("nothing can be undone", b.undo(), NONE);
        b.hour();
        due("again", b.back(3), 5);
        due("another image", b.image(0), 5);
        due("in place of the first", b.back(0), 5);
        for (int i = 1; i < 10; i++) {
            b.note(1, 0, i < 9 ? 2 : 3);
        }
        b.image(1);
        b.note(NONE, 0, 0);
        due("all notes hold", b.ruled(0), 3);
        b.back(1);
        due("ten notes", b.count(10), 10);
        due("the tenth does not", b.ruled(0), 0);
    }
}
