/** Promises 1 to 4: a new object, the tape, the election and its faults. */
final class TextSentences {
    private static final int NONE = Case.NONE;

    private TextSentences() {
    }

    // ---- promise 1 ----

    @Sentence(promise = 1, text = "No ELECTION, no RULES, none IN FORCE.")
    static void p01NothingIsThere(Case c) {
        for (int what = 0; what <= 13; what++) {
            c.due("count " + what, c.book.count(what), what == 3 ? NONE : 0);
        }
        c.due("no rule to force", c.book.force(0), -2);
        c.due("none was in force", c.book.force(NONE), NONE);
    }

    @Sentence(promise = 1, text = "No ELECTION")
    static void p01WithoutAnElectionNothingCanBeAsked(Case c) {
        BallotBook b = c.book;
        c.refused("without an election", NONE, () -> b.station(0, 0), () -> b.paper(0, 0), () -> b.row(0, 1, 0),
                () -> b.moved(0, 1), () -> b.told(0, 0), () -> b.way(0, 0), () -> b.balance(0), () -> b.leaves(0),
                () -> b.ahead(0, 0, 0), () -> b.dry(0), b::served, () -> b.crowds(0, 0), () -> b.rests(0, 1, 1, 0),
                () -> b.pence(0, 0), () -> b.look(0, 0), () -> b.crowded(1, 1, 0, 0), () -> b.back(0));
        c.refused("without stations", -3, () -> b.slips(0), b::must, b::free, () -> b.ruled(0));
        c.refused("without a station", -2, () -> b.runs(0, NONE, 0), () -> b.more(0, 1, 0), () -> b.note(0, 0, 0));
    }

    @Sentence(promise = 1, text = "No ELECTION")
    static void p01WithoutAnElectionNothingCanBeDone(Case c) {
        BallotBook b = c.book;
        c.refused("acts", NONE, b::hour, () -> b.move(0, 1, 1), () -> b.lend(0, 1, 1), () -> b.spoil(0),
                () -> b.find(0), () -> b.send(0, 1, 1), () -> b.tell(0, 0, 0), () -> b.recount(0), b::undo);
    }

    @Sentence(promise = 1, text = "`NONE = -1`: None.")
    static void p01Constant(Case c) {
        c.due("NONE", BallotBook.NONE, -1);
    }

    @Sentence(promise = 1, text = "An object is used for at most 512 calls after it has been made")
    static void p01The512thCallIsAsTheFirst(Case c) {
        c.election("papers 60;station 0 59;voters 0 60");
        BallotBook b = c.book;
        c.due("calls so far: feeds, end and the like", b.station(0, 0), 60);
        for (int call = 10; call < 512; call++) {
            b.send(0, 0, 1);
        }
        c.due("the 512th", b.station(0, 3), 60);
    }

    // ---- promise 2 ----

    @Sentence(promise = 2, text = "Twenty bytes come behind the TAPE")
    static void p02BytesComeBehind(Case c) {
        // "papers 60;station 0 " and "59" with blanks
        c.due("first", c.book.feed(0x70617065, 0x72732036, 0x303b7374, 0x6174696f, 0x6e203020), 20);
        c.due("second", c.book.feed(0x35392020, 0x20202020, 0x20202020, 0x20202020, 0x20202020), 40);
        c.due("election", c.book.election(), 1);
        c.due("stock", c.book.station(0, 0), 60);
    }

    @Sentence(promise = 2, text = "of each number the highest first")
    static void p02HighestByteFirst(Case c) {
        c.book.feed(0x70617065, 0x72732035, 0x20202020, 0x20202020, 0x20202020);
        c.due("papers 5", c.book.election(), 0);
        c.due("printed", c.book.count(0), 5);
        c.book.feed(0x65706170, 0x35207372, 0x20202020, 0x20202020, 0x20202020);
        c.due("the lowest first is no word", c.book.election(), -3);
    }

    @Sentence(promise = 2, text = "of each number the highest first")
    static void p02NumbersBelowNoughtHaveHighBytes(Case c) {
        // byte 8 is 160, which is no blank, and 0xffffffff is four bytes of 255
        c.book.feed(0x70617065, 0x72732035, 0xa0202020, -1, -1);
        c.due("fault at byte 8", c.book.election(), -2 - (1 + 8 * 8));
        c.book.feed(-1, -1, -1, -1, -1);
        c.due("fault at byte 0", c.book.election(), -3);
        c.book.feed(Case.LEAST, 0, 0, 0, Case.MOST);
        c.due("fault at byte 0", c.book.election(), -3);
    }

    @Sentence(promise = 2, text = "how many it has")
    static void p02HowMany(Case c) {
        for (int i = 1; i <= 20; i++) {
            c.due("feed " + i, c.book.feed(0, 0, 0, 0, 0), 20 * i);
            c.due("bytes", c.book.count(13), 20 * i);
        }
    }

    @Sentence(promise = 2, text = "NONE, and none comes, if it would have more than 400.")
    static void p02FullAt400(Case c) {
        c.put("papers 7" + " ".repeat(392));
        c.due("full", c.book.count(13), 400);
        c.refused("one feed more", NONE, () -> c.book.feed(-1, -1, -1, -1, -1));
        c.due("the 400 bytes are as they were", c.book.election(), 0);
        c.due("printed", c.book.count(0), 7);
    }

    @Sentence(promise = 2, text = "NONE, and none comes, if it would have more than 400.")
    static void p02No401st(Case c) {
        c.put("papers 7" + " ".repeat(392));
        c.book.end(381);
        c.refused("20 behind 381", NONE, () -> c.book.feed(0, 0, 0, 0, 0));
        c.due("none of the 20 came", c.book.election(), 0);
    }

    @Sentence(promise = 2, text = "if it would have more than 400")
    static void p02Just400(Case c) {
        c.put("papers 7" + " ".repeat(392));
        c.book.end(380);
        c.due("20 behind 380", c.book.feed(0, 0, 0, 0, 0), 400);
        c.due("they are behind", c.book.election(), -2 - (1 + 8 * 380));
    }

    // ---- promise 3 ----

    @Sentence(promise = 3, text = "The TAPE has its first n bytes alone: n")
    static void p03FirstBytesAlone(Case c) {
        c.put("papers 25");
        c.due("8", c.book.end(8), 8);
        c.due("bytes", c.book.count(13), 8);
        c.due("election", c.book.election(), 0);
        c.due("printed", c.book.count(0), 2);
    }

    @Sentence(promise = 3, text = "The TAPE has its first n bytes alone: n")
    static void p03AllAndNone(Case c) {
        c.put("papers 25");
        c.due("all", c.book.end(9), 9);
        c.due("none", c.book.end(0), 0);
        c.due("bytes", c.book.count(13), 0);
        c.due("none of none", c.book.end(0), 0);
    }

    @Sentence(promise = 3, text = "The TAPE has its first n bytes alone: n")
    static void p03WhatWasCutOffIsGone(Case c) {
        c.put("papers 25");
        c.book.end(7);
        c.put("1");
        c.due("the bytes behind are new ones", c.book.election(), 0);
        c.due("printed", c.book.count(0), 1);
    }

    @Sentence(promise = 3, text = "NONE, and nothing happens, if it has not so many")
    static void p03NotSoMany(Case c) {
        c.put("papers 25");
        c.refused("beyond", NONE, () -> c.book.end(10), () -> c.book.end(20), () -> c.book.end(400),
                () -> c.book.end(Case.MOST));
        c.due("the text is as it was", c.book.election(), 0);
        c.due("printed", c.book.count(0), 25);
        c.refused("of an empty one", NONE, () -> c.book.end(1));
    }

    @Sentence(promise = 3, text = "NONE, and nothing happens, if it has not so many")
    static void p03Full(Case c) {
        for (int i = 0; i < 20; i++) {
            c.book.feed(0, 0, 0, 0, 0);
        }
        c.refused("401", NONE, () -> c.book.end(401));
        c.due("400", c.book.end(400), 400);
    }

    @Sentence(promise = 3, text = "or n is below 0")
    static void p03BelowNought(Case c) {
        c.put("papers 25");
        c.refused("below 0", NONE, () -> c.book.end(-1), () -> c.book.end(Case.LEAST));
    }

    // ---- promise 4 ----

    @Sentence(promise = 4, text = "The TAPE, which is empty then, is the ELECTION in place of the one there was")
    static void p04InPlace(Case c) {
        c.begin(Case.THREE);
        c.hours(2);
        c.goodElection("papers 4;station 1 2", 1);
        c.due("tape", c.book.count(13), 0);
        c.due("printed", c.book.count(0), 4);
        c.due("stations", c.book.count(1), 1);
        c.due("hour", c.book.count(4), 0);
        c.due("stock", c.book.count(5), 2);
        c.due("boxes", c.book.count(6), 0);
        c.due("spoiled", c.book.count(7), 0);
        c.due("wait", c.book.count(8), 0);
        c.due("a number of the one there was", c.book.paper(0, 0), NONE);
        c.due("a number of this one", c.book.paper(1, 0), 0);
        c.due("no second station", c.book.station(1, 0), NONE);
    }

    @Sentence(promise = 4, text = "The TAPE, which is empty then, is the ELECTION in place of the one there was")
    static void p04WhatAnotherTextToldIsGone(Case c) {
        c.begin("papers 9;station 0 8;voters 0 7;spoiled 2;spoiled 8");
        c.goodElection("papers 9;station 0 8", 1);
        c.due("spoiled by the other text", c.book.paper(2, 1), 0);
        c.due("stock", c.book.station(0, 0), 9);
        c.due("spoiled", c.book.station(0, 2), 0);
        c.due("wait", c.book.station(0, 3), 0);
        c.badElection("papers 9;station 0 3;spoiled 1;voters 0 5;station 5 8;^x", 0);
        c.goodElection("papers 9;station 3 8", 1);
        c.goodElection("papers 9;station 0 8", 1);
        c.due("numbers of a text with a fault are free", c.book.station(0, 0), 9);
    }

    @Sentence(promise = 4, text = "(no NOTES, nothing to be UNDONE; the RULE IN FORCE, x, IMAGES stay)")
    static void p04NoNotes(Case c) {
        c.begin(Case.THREE);
        c.book.note(0, 0, 5);
        c.due("no rule is so", c.book.ruled(0), 0);
        c.goodElection("papers 4;station 1 2", 1);
        c.due("notes", c.book.count(10), 0);
        c.due("none is so", c.book.ruled(0), 1);
    }

    @Sentence(promise = 4, text = "(no NOTES, nothing to be UNDONE; the RULE IN FORCE, x, IMAGES stay)")
    static void p04NothingToBeUndone(Case c) {
        c.begin(Case.THREE);
        c.hours(3);
        c.goodElection("papers 4;station 1 2", 1);
        c.due("acts", c.book.count(11), 0);
        c.refused("undo", NONE, c.book::undo);
    }

    @Sentence(promise = 4, text = "(no NOTES, nothing to be UNDONE; the RULE IN FORCE, x, IMAGES stay)")
    static void p04WhatStays(Case c) {
        c.begin(Case.THREE);
        c.enforce("serve station");
        c.book.seed(77);
        c.book.hour();
        c.book.image(2);
        c.goodElection("papers 4;station 0 0;station 1 1;voters 0 1;voters 1 1", 2);
        c.due("in force", c.book.count(3), 0);
        c.due("it rules", c.book.hour(), 1);
        c.due("x", c.book.count(12), 77);
        c.due("image", c.book.back(2), 1);
        c.due("stations of the image", c.book.count(1), 3);
    }

    @Sentence(promise = 4, text = "how many STATIONS; -2 - its FAULT")
    static void p04HowMany(Case c) {
        c.goodElection("papers 5", 0);
        c.goodElection("papers 5;station 0 0", 1);
        c.goodElection("papers 5;station 0 0;station 1 1;station 2 2;station 3 3;station 4 4", 5);
        c.due("of no text", c.election(""), -3);
    }

    @Sentence(promise = 4, text = "and all but the TAPE (it is empty then, too) stays")
    static void p04WithAFaultAllStays(Case c) {
        c.begin(Case.THREE);
        c.enforce("serve 1");
        c.book.seed(5);
        c.hours(5);
        c.book.move(0, 1, 1);
        c.book.tell(0, 0, 4);
        c.book.note(0, 0, 1);
        String before = c.state();
        c.badElection("papers 9;station 0 4;voters 0 7;spoiled 1;station ^4 5", 1);
        c.same("with a fault", before);
        c.due("tape", c.book.count(13), 0);
        c.due("the notes are as they were", c.book.ruled(0), 2);
        c.due("the begin is as it was", c.book.crowds(0, 0), 60);
        c.due("an act can be undone", c.book.undo(), 6);
    }

    // ---- ELECTION, as Terms tell it ----

    @Sentence(promise = 4, text = "An ELECTION is a text of at most 400 bytes: CLAUSE { ; CLAUSE }, 40 at most")
    static void p04TextOf400Bytes(Case c) {
        String clause = "papers 3;station 0 2";
        c.goodElection(clause + " ".repeat(400 - clause.length()), 1);
        c.goodElection(" ".repeat(400 - clause.length()) + clause, 1);
        c.badElection(" ".repeat(400) + "^", 0);
    }

    @Sentence(promise = 4, text = "An ELECTION is a text of at most 400 bytes: CLAUSE { ; CLAUSE }, 40 at most")
    static void p04FortyClauses(Case c) {
        String thirtyNine = "papers1;station0 0" + ";spoiled0".repeat(37);
        c.goodElection(thirtyNine, 1);
        c.goodElection(thirtyNine + ";voters0 9", 1);
        c.due("the fortieth counts", c.book.station(0, 3), 9);
        c.badElection(thirtyNine + ";spoiled0;^voters0 9", 4);
        c.badElection(thirtyNine + ";spoiled0; ^papers 2", 4);
        c.badElection(thirtyNine + ";spoiled0;^station0 0", 4);
    }

    @Sentence(promise = 4, text = "papers NUMBER (PRINTED 1 to 60, numbers 0 to PRINTED - 1; once, the first CLAUSE)")
    static void p04Printed(Case c) {
        c.badElection("papers ^0", 1);
        c.badElection("papers ^00000", 1);
        c.goodElection("papers 1", 0);
        c.due("printed", c.book.count(0), 1);
        c.goodElection("papers 60", 0);
        c.due("printed", c.book.count(0), 60);
        c.badElection("papers ^61", 1);
        c.badElection("papers ^99999", 1);
    }

    @Sentence(promise = 4, text = "numbers 0 to PRINTED - 1")
    static void p04NumbersAreBelowPrinted(Case c) {
        c.goodElection("papers 12;station 0 11", 1);
        c.badElection("papers 12;station 0 ^12", 1);
        c.badElection("papers 12;station ^12 12", 1);
        c.goodElection("papers 1;station 0 0;spoiled 0", 1);
        c.badElection("papers 1;station 0 0;spoiled ^1", 1);
        c.goodElection("papers 60;station 59 59;spoiled 59", 1);
        c.badElection("papers 60;station 0 ^60", 1);
    }

    @Sentence(promise = 4, text = "once, the first CLAUSE")
    static void p04PapersOnceAndFirst(Case c) {
        c.badElection("papers 2;^papers 2", 4);
        c.badElection("papers 2;station 0 1; ^papers 3", 4);
        c.badElection("^station 0 1;papers 2", 4);
        c.badElection("^voters 0 1;papers 2", 4);
        c.badElection(" ^spoiled 0;papers 2", 4);
        c.badElection("^station", 4);
    }

    @Sentence(promise = 4, text = "station NUMBER NUMBER (FROM, TO: a number, and one from that on")
    static void p04FromAndTo(Case c) {
        c.goodElection("papers 9;station 4 4", 1);
        c.due("one number", c.book.station(0, 4), 1);
        c.goodElection("papers 9;station 4 5", 1);
        c.due("two numbers", c.book.station(0, 4), 2);
        c.badElection("papers 9;station 4 ^3", 1);
        c.badElection("papers 9;station 8 ^0", 1);
        c.badElection("papers 9;station 4^", 0);
        c.badElection("papers 9;station^", 0);
        c.badElection("papers 9;station 4^;", 0);
    }

    @Sentence(promise = 4, text = "none of these numbers is of a STATION told ahead")
    static void p04NumbersOfAnother(Case c) {
        c.goodElection("papers 20;station 5 9;station 10 12;station 0 4", 3);
        c.badElection("papers 20;station 5 9;station ^9 12", 1);
        c.badElection("papers 20;station 5 9;station ^5 5", 1);
        c.badElection("papers 20;station 5 9;station 0 ^5", 1);
        c.badElection("papers 20;station 5 9;station 4 ^10", 1);
        c.badElection("papers 20;station 7 7;station 0 ^19", 1);
        c.badElection("papers 60;station 59 59;station 0 ^59", 1);
        c.goodElection("papers 60;station 59 59;station 0 58", 2);
    }

    @Sentence(promise = 4, text = "voters NUMBER NUMBER (a STATION that was told")
    static void p04VotersOfAStationTold(Case c) {
        c.badElection("papers 9;voters ^0 1", 1);
        c.badElection("papers 9;voters ^0 1;station 0 1", 1);
        c.goodElection("papers 9;station 0 1;voters 0 1", 1);
        c.badElection("papers 9;station 0 1;voters ^1 1", 1);
        c.goodElection("papers 9;station 0 1;station 2 3;station 4 4;station 5 5;station 6 6;voters 4 1", 5);
        c.badElection("papers 9;station 0 1;station 2 3;station 4 4;station 5 5;station 6 6;voters ^5 1", 1);
        c.badElection("papers 9;station 0 1;voters 0^", 0);
    }

    @Sentence(promise = 4, text = "0 to 60 WAIT there")
    static void p04SixtyWait(Case c) {
        c.goodElection("papers 9;station 0 1;voters 0 0", 1);
        c.due("wait", c.book.station(0, 3), 0);
        c.goodElection("papers 9;station 0 1;voters 0 60", 1);
        c.due("wait", c.book.station(0, 3), 60);
        c.badElection("papers 9;station 0 1;voters 0 ^61", 1);
    }

    @Sentence(promise = 4, text = "of one the last told, 0 without")
    static void p04LastTold(Case c) {
        c.goodElection("papers 9;station 0 1;voters 0 60;station 2 3;voters 0 7", 2);
        c.due("the last", c.book.station(0, 3), 7);
        c.due("without", c.book.station(1, 3), 0);
        c.goodElection("papers 9;station 0 1;voters 0 60;voters 0 0", 1);
        c.due("0 is the last", c.book.station(0, 3), 0);
        c.badElection("papers 9;station 0 1;voters 0 5;voters 0^", 0);
        c.goodElection("papers 9;station 0 1", 1);
        c.due("of another text", c.book.station(0, 3), 0);
    }

    @Sentence(promise = 4, text = "spoiled NUMBER (a number that a STATION told ahead has; told already: nothing new)")
    static void p04SpoiledOfAStation(Case c) {
        c.badElection("papers 9;spoiled ^0", 1);
        c.badElection("papers 9;spoiled ^0;station 0 1", 1);
        c.badElection("papers 9;station 1 2;spoiled ^0", 1);
        c.badElection("papers 9;station 1 2;spoiled ^3", 1);
        c.goodElection("papers 9;station 1 2;spoiled 1", 1);
        c.goodElection("papers 9;station 1 2;spoiled 2", 1);
        c.badElection("papers 9;station 1 2;spoiled ^9", 1);
        c.badElection("papers 9;station 1 2;spoiled^", 0);
    }

    @Sentence(promise = 4, text = "told already: nothing new")
    static void p04SpoiledTwice(Case c) {
        c.goodElection("papers 9;station 1 5;spoiled 4;spoiled 4;spoiled 2;spoiled 4", 1);
        c.due("spoiled", c.book.station(0, 2), 2);
        c.due("stock", c.book.station(0, 0), 3);
        c.dueRow(0, 2, 2, 4);
    }

    @Sentence(promise = 4, text = "STATIONS 0 to 4, in the order told.")
    static void p04OrderTold(Case c) {
        c.begin("papers 9;station 8 8;station 6 7;station 0 1;station 5 5;station 2 2");
        c.due("8", c.book.paper(8, 0), 0);
        c.due("6", c.book.paper(6, 0), 1);
        c.due("0", c.book.paper(0, 0), 2);
        c.due("5", c.book.paper(5, 0), 3);
        c.due("2", c.book.paper(2, 0), 4);
        c.due("no sixth", c.book.station(5, 0), NONE);
    }

    @Sentence(promise = 4, text = "each number of a STATION is in its STOCK, or, if it is told so, SPOILED there (the least first)")
    static void p04StockOrSpoiled(Case c) {
        c.begin("papers 9;station 0 4;station 5 8;spoiled 3;spoiled 8;spoiled 0;spoiled 6;spoiled 1");
        c.dueRow(0, 2, 0, 1, 3);
        c.dueRow(1, 2, 6, 8);
        c.due("stock of 0", c.book.station(0, 0), 2);
        c.due("stock of 1", c.book.station(1, 0), 2);
        c.due("2", c.book.paper(2, 1), 0);
        c.goodElection("papers 2;station 0 1;spoiled 0;spoiled 1", 1);
        c.due("all are spoiled", c.book.station(0, 0), 0);
    }

    @Sentence(promise = 4, text = "It is HOUR 0")
    static void p04HourNought(Case c) {
        c.begin(Case.THREE);
        c.due("at first", c.book.count(4), 0);
        c.hours(3);
        c.election(Case.THREE);
        c.due("again", c.book.count(4), 0);
    }

    @Sentence(promise = 4, text = "all BOXES are empty; nothing is TOLD, nothing MOVED, none RECOUNTED")
    static void p04AllAnew(Case c) {
        c.begin(Case.THREE);
        String fresh = c.state();
        c.hours(5);
        c.book.move(0, 1, 2);
        c.book.lend(0, 2, 3);
        c.tellAll(0, 1, 2, 3);
        c.book.recount(1);
        c.book.spoil(16);
        c.election(Case.THREE);
        c.same("the same text again", fresh);
        c.due("told", c.book.told(1, 1), -2);
        c.due("moved", c.book.moved(0, 1), 0);
        c.due("recounted", c.book.station(1, 5), 0);
        c.due("way", c.book.way(0, 0), 0);
    }

    @Sentence(promise = 4, text = "NUMBER (1 to 5 digits, as far as digits go on)")
    static void p04Digits(Case c) {
        c.goodElection("papers 00012;station 00003 00011;voters 00000 00060", 1);
        c.due("wait", c.book.station(0, 3), 60);
        c.badElection("papers ^000012", 1);
        c.badElection("papers ^99999999999999999999", 1);
        c.badElection("papers ^4294967297", 1);
        c.goodElection("papers12;station3 11", 1);
        c.badElection("papers 12;station ^311", 1);
    }

    @Sentence(promise = 4, text = "Blanks (32) stand between as one likes.")
    static void p04Blanks(Case c) {
        c.goodElection("   papers   9  ;   station   0   4   ;voters0 1   ", 1);
        c.goodElection("papers9;station0 4;spoiled4", 1);
        c.badElection("papers 9;^sta tion 0 1", 0);
        c.badElection("papers 1 ^2", 0);
        c.badElection("papers^\t9", 0);
        c.badElection("papers 9^\n", 0);
        c.badElection("papers" + "^" + (char) 160 + "9", 0);
        c.badElection("papers 9^" + (char) 0, 0);
    }

    @Sentence(promise = 4, text = "0 a byte or WORD that can't stand there, or the end (behind the last byte)")
    static void p04ByteOrWord(Case c) {
        c.badElection("^paper 9", 0);
        c.badElection("^paperss 9", 0);
        c.badElection("^Papers 9", 0);
        c.badElection("^papersz 9", 0);
        c.badElection("^papersa 9", 0);
        c.badElection("papers^{9", 0);
        c.badElection("papers^`9", 0);
        c.badElection("^7", 0);
        c.badElection("^;", 0);
        c.badElection("papers ^x", 0);
        c.badElection("papers ^-1", 0);
        c.badElection("papers 9^,", 0);
        c.badElection("papers 9 ^station 0 1", 0);
        c.badElection("papers 9;^;", 0);
        c.badElection("papers 9;^serve 1", 0);
        c.badElection("papers 9;station 0 1;voters 0 ^many", 0);
    }

    @Sentence(promise = 4, text = "or the end (behind the last byte)")
    static void p04TheEnd(Case c) {
        c.badElection("^", 0);
        c.badElection("   ^", 0);
        c.badElection("papers^", 0);
        c.badElection("papers  ^", 0);
        c.badElection("papers 9;^", 0);
        c.badElection("papers 9; ^", 0);
        c.badElection("papers 9;station 0 ^", 0);
    }

    @Sentence(promise = 4, text = "or not as told (of station FROM, if it is another one's; TO, if it is below FROM, "
            + "or a number from FROM to TO is another one's)")
    static void p04FromAheadOfTo(Case c) {
        c.badElection("papers 20;station 5 9;station ^6 2", 1);
        c.badElection("papers 20;station 5 9;station ^9 99", 1);
        c.badElection("papers 20;station 5 9;station 4 ^3", 1);
        c.badElection("papers 20;station 5 9;station 4 ^20", 1);
        c.badElection("papers 20;station 5 9;station ^9", 1);
    }

    @Sentence(promise = 4, text = "4 one CLAUSE too many, a second papers, another CLAUSE ahead of it, a sixth STATION "
            + "(at its first byte)")
    static void p04SixthStation(Case c) {
        String five = "papers 9;station 0 0;station 1 1;station 2 2;station 3 3;station 4 4";
        c.badElection(five + ";^station 5 5", 4);
        c.badElection(five + ";  ^station", 4);
        c.goodElection(five + ";voters 4 1", 5);
    }

    @Sentence(promise = 4, text = "FAULTS, the first along the text, 1 + 8 * its place and")
    static void p04TheFirstAlongTheText(Case c) {
        c.badElection("papers ^0;papers x", 1);
        c.badElection("papers 9;station ^9 1;voters 7 99", 1);
        c.badElection("papers 9^.station 9 1", 0);
        c.badElection("^voters 99 99", 4);
        c.due("place 0 and kind 0", c.election("x"), -2 - 1);
        c.due("place 1 and kind 4", c.election(" voters"), -2 - (1 + 8 + 4));
    }

    @Sentence(promise = 4, text = "Of one place the least.")
    static void p04OfOnePlaceTheLeast(Case c) {
        String forty = "papers1;station0 0" + ";spoiled0".repeat(38);
        c.badElection(forty + ";^spoil", 0);
        c.badElection(forty + ";^", 0);
        c.badElection(forty + ";^1", 0);
        c.badElection("^station9 0", 4);
        c.badElection("^stations 9 0", 0);
    }
}
