import java.util.function.IntSupplier;

/** Promises 13 to 22: hours, the other acts, undoing, and ways. */
final class ActSentences {
    private static final int NONE = Case.NONE;
    /** Each of these has but numbers that are not spoiled when given out. */
    private static final String THREE_ALIKE =
            "papers 30;station 0 2;station 4 6;station 7 9;voters 0 3;voters 1 3;voters 2 3";

    private ActSentences() {
    }

    // ---- promise 13 ----

    @Sentence(promise = 13, text = "An HOUR: which STATION serves (-2: none)")
    static void p13WhichServes(Case c) {
        c.begin(Case.THREE);
        int[] want = {0, 0, 0, 0, 1, 1, -2, -2};
        for (int hour = 0; hour < want.length; hour++) {
            c.due("hour " + hour, c.book.hour(), want[hour]);
            c.due("hours gone", c.book.count(4), hour + 1);
        }
        c.begin("papers 3");
        c.due("no stations", c.book.hour(), -2);
        c.due("an hour is gone", c.book.count(4), 1);
        c.due("it can be undone", c.book.undo(), 0);
    }

    @Sentence(promise = 13, text = "NONE, and nothing happens, without an ELECTION, or in HOUR 999.")
    static void p13WithoutAnElection(Case c) {
        c.refused("new", NONE, c.book::hour);
        c.rule("serve 1");
        c.book.force(0);
        c.book.image(0);
        c.book.back(0);
        c.election("papers");
        c.refused("still none", NONE, c.book::hour);
    }

    /** More than 512 calls, behind which answers are free: hour 999 can't be come to otherwise. */
    @Sentence(promise = 13, text = "NONE, and nothing happens, without an ELECTION, or in HOUR 999.")
    static void p13Hour999(Case c) {
        c.begin("papers 3;station 0 1;voters 0 1");
        c.enforce("serve 1 if hour >= 998");
        c.hours(998);
        c.due("998", c.book.count(4), 998);
        c.due("the last by hand", c.book.hour(), 0);
        c.due("999", c.book.count(4), 999);
        c.refused("no more", NONE, c.book::hour, c.book::hour);
        c.due("back to 998", c.book.undo(), 19);
        c.due("998", c.book.count(4), 998);
        c.due("once more", c.book.hour(), 0);
    }

    @Sentence(promise = 13, text = "HOUR is 1 more (999 at most by hand; HOURS that are asked go on beyond).")
    static void p13AskedHoursGoOn(Case c) {
        c.begin("papers 3;station 0 1;voters 0 1");
        c.enforce("serve 1 if hour >= 1005");
        c.hours(999);
        c.due("hour", c.book.count(4), 999);
        c.due("hours 999 to 1004", c.book.ahead(0, 6, 1), 0);
        c.due("hours 999 to 1005", c.book.ahead(0, 7, 1), 1);
        c.due("served", c.book.served(), 1005);
        c.due("by hand it stays", c.book.count(4), 999);
    }

    @Sentence(promise = 13, text = "A STATION CAN serve, if any WAIT there, and its STOCK is not empty.")
    static void p13CanServe(Case c) {
        c.begin("papers 9;station 0 0;station 1 2;station 4 5;voters 0 3;voters 2 1;spoiled 0");
        c.due("bits", c.book.count(9), 4);
        c.due("0 has no stock, nobody waits at 1", c.book.hour(), 2);
        c.due("none can now", c.book.count(9), 0);
        c.due("none", c.book.hour(), -2);
        c.book.send(0, 1, 1);
        c.due("1 can", c.book.count(9), 2);
        c.due("1", c.book.hour(), 1);
        c.book.lend(1, 0, 1);
        c.due("0 can", c.book.count(9), 1);
        c.due("0", c.book.hour(), 0);
    }

    @Sentence(promise = 13, text = "the least number of its STOCK is given out")
    static void p13LeastIsGivenOut(Case c) {
        c.begin("papers 20;station 5 9;station 0 1;voters 0 5");
        c.book.lend(1, 0, 1);
        c.hours(3);
        c.dueRow(0, 1, 1, 5, 6);
        c.due("wait", c.book.station(0, 3), 2);
        c.due("stock", c.book.station(0, 0), 3);
    }

    @Sentence(promise = 13, text = "is its rest by 7 3, it is SPOILED (behind all others), and the least one of the STOCK then is given "
            + "out in its place")
    static void p13RestIsThree(Case c) {
        c.begin("papers 20;station 9 12;voters 0 3;spoiled 12");
        c.due("9", c.book.hour(), 0);
        c.due("10 is spoiled, 11", c.book.hour(), 0);
        c.dueRow(0, 1, 9, 11);
        c.dueRow(0, 2, 12, 10);
        c.due("wait", c.book.station(0, 3), 1);
        c.due("stock", c.book.station(0, 0), 0);
    }

    @Sentence(promise = 13, text = "is its rest by 7 3, it is SPOILED")
    static void p13AllNumbersOfRestThree(Case c) {
        c.begin("papers 60;station 0 59;voters 0 60");
        c.hours(60);
        c.dueRow(0, 2, 3, 10, 17, 24, 31, 38, 45, 52, 59);
        c.due("box", c.book.station(0, 1), 51);
        c.due("wait", c.book.station(0, 3), 9);
    }

    @Sentence(promise = 13, text = "which is not SPOILED, whatever its rest")
    static void p13InItsPlaceWhateverItsRest(Case c) {
        c.begin("papers 18;station 3 3;station 10 10;station 17 17;voters 0 3");
        c.book.lend(1, 0, 1);
        c.book.lend(2, 0, 1);
        c.due("3 is spoiled, 10 is not", c.book.hour(), 0);
        c.dueRow(0, 1, 10);
        c.dueRow(0, 2, 3);
        c.due("17 is the next", c.book.hour(), 0);
        c.dueRow(0, 2, 3, 17);
        c.dueRow(0, 1, 10);
    }

    @Sentence(promise = 13, text = "(if there is none, nothing is given out, the voter WAITS on)")
    static void p13NoneInItsPlace(Case c) {
        c.begin("papers 60;station 59 59;station 3 3;voters 0 2;voters 1 1");
        c.due("59 is spoiled", c.book.hour(), 0);
        c.dueRow(0, 1);
        c.dueRow(0, 2, 59);
        c.due("they wait on", c.book.station(0, 3), 2);
        c.due("0 can't serve now", c.book.hour(), 1);
        c.due("waits on", c.book.station(1, 3), 1);
        c.due("none", c.book.hour(), -2);
    }

    @Sentence(promise = 13, text = "what is given out so is put into the BOX behind all others, and 1 less WAITS")
    static void p13BehindAllOthers(Case c) {
        c.begin(Case.THREE);
        c.book.spoil(9);
        c.book.find(9);
        c.hours(2);
        c.dueRow(0, 1, 9, 0, 1);
        c.due("wait", c.book.station(0, 3), 2);
    }

    @Sentence(promise = 13, text = "of the STATIONS that CAN serve that one does for which the SUM of the RULE IN FORCE's first CLAUSE "
            + "without a TEST, or whose TEST holds (0 without), is greatest")
    static void p13Greatest(Case c) {
        c.begin(THREE_ALIKE);
        c.enforce("serve 5 - station * station");
        c.due("5 4 1", c.book.hour(), 0);
        c.enforce("serve station * 7 % 4 + 1");
        c.due("1 4 3", c.book.hour(), 1);
        c.enforce("serve station");
        c.due("0 1 2", c.book.hour(), 2);
    }

    @Sentence(promise = 13, text = "of the STATIONS that CAN serve that one does for which the SUM")
    static void p13FiveStations(Case c) {
        c.begin("papers 6;station 0 0;station 1 1;station 2 2;station 4 4;station 5 5;"
                + "voters 0 1;voters 1 1;voters 2 1;voters 3 1;voters 4 1");
        c.enforce("serve station");
        int[] want = {4, 3, 2, 1, -2};
        for (int hour = 0; hour < want.length; hour++) {
            c.due("hour " + hour, c.book.hour(), want[hour]);
        }
    }

    @Sentence(promise = 13, text = "first CLAUSE without a TEST, or whose TEST holds (0 without)")
    static void p13FirstClause(Case c) {
        c.begin(THREE_ALIKE);
        c.enforce("serve 9 if station = 5; serve 2 if station = 1; serve 1; serve 99");
        c.due("1 2 1", c.book.hour(), 1);
        c.enforce("serve 3; serve 9 if station = 2");
        c.due("3 3 3", c.book.hour(), 0);
        c.enforce("serve 0 if station = 0; serve 0 - 5 if station = 1; serve 1");
        c.due("the first that holds, though not above 0", c.book.hour(), 2);
        c.enforce("serve 9 if station = 5; serve 9 if hour = 0");
        c.due("no test holds: 0 each", c.book.hour(), -2);
    }

    @Sentence(promise = 13, text = "if it is above 0, of several the least (none, if none is such)")
    static void p13AboveNought(Case c) {
        c.begin(THREE_ALIKE);
        c.enforce("serve 0");
        c.due("0", c.book.hour(), -2);
        c.enforce("serve 0 - 1");
        c.due("below 0", c.book.hour(), -2);
        c.enforce("serve 1 if station = 2; serve 0 - 1");
        c.due("1 is above", c.book.hour(), 2);
        c.enforce("serve 65536*65536*65536*32768");
        c.due("the least number there is", c.book.hour(), -2);
        c.enforce("serve 65536*65536*65536*32768 - 1 if station = 1; serve 99999");
        c.due("the greatest there is", c.book.hour(), 1);
        c.due("hours", c.book.count(4), 5);
        c.due("nobody was served but two", c.book.count(8), 7);
    }

    @Sentence(promise = 13, text = "of several the least (none, if none is such)")
    static void p13OfSeveralTheLeast(Case c) {
        c.begin(THREE_ALIKE);
        c.enforce("serve 7 if station > 0; serve 1");
        int[] want = {1, 1, 1, 2, 2, 2, 0, 0, 0, -2};
        for (int hour = 0; hour < want.length; hour++) {
            c.due("hour " + hour, c.book.hour(), want[hour]);
        }
    }

    @Sentence(promise = 13, text = "without a RULE the least")
    static void p13WithoutARule(Case c) {
        c.begin(THREE_ALIKE);
        c.rule("serve station");
        for (int hour = 0; hour < 10; hour++) {
            c.due("hour " + hour, c.book.hour(), hour < 9 ? hour / 3 : -2);
        }
    }

    // ---- promise 14 ----

    private static BallotBook tenInABox(Case c) {
        BallotBook b = c.begin("papers 20;station 0 10;station 11 19");
        int[] order = {5, 0, 9, 1, 8, 2, 7, 3, 6, 4};
        for (int paper : order) {
            b.spoil(paper);
            b.find(paper);
        }
        b.spoil(15);
        b.find(15);
        return b;
    }

    @Sentence(promise = 14, text = "MOVE (the first 1 to 9 PAPERS of a BOX that has so many are put into another BOX, one behind the other, "
            + "behind all others")
    static void p14FirstNine(Case c) {
        BallotBook b = tenInABox(c);
        c.refused("0 and 10", NONE, () -> b.move(0, 1, 0), () -> b.move(0, 1, 10), () -> b.move(0, 1, -1));
        c.due("nine", b.move(0, 1, 9), 10);
        c.dueRow(0, 1, 4);
        c.dueRow(1, 1, 15, 5, 0, 9, 1, 8, 2, 7, 3, 6);
    }

    @Sentence(promise = 14, text = "MOVE (the first 1 to 9 PAPERS of a BOX that has so many")
    static void p14FirstOne(Case c) {
        BallotBook b = tenInABox(c);
        c.due("one", b.move(1, 0, 1), 11);
        c.dueRow(1, 1);
        c.dueRow(0, 1, 5, 0, 9, 1, 8, 2, 7, 3, 6, 4, 15);
        c.refused("an empty box", NONE, () -> b.move(1, 0, 1));
    }

    @Sentence(promise = 14, text = "of a BOX that has so many")
    static void p14NotSoMany(Case c) {
        c.begin(Case.THREE);
        c.hours(5);
        BallotBook b = c.book;
        c.refused("four are there", NONE, () -> b.move(0, 1, 5), () -> b.move(0, 1, 9));
        c.refused("stock is no box", NONE, () -> b.move(2, 1, 1));
        c.due("all four", b.move(0, 1, 4), 5);
        c.dueRow(0, 1);
    }

    @Sentence(promise = 14, text = "MOVED from the one STATION to the other one is as much more")
    static void p14MovedIsMore(Case c) {
        BallotBook b = tenInABox(c);
        b.move(0, 1, 9);
        c.due("nine", b.moved(0, 1), 9);
        b.move(0, 1, 1);
        c.due("ten", b.moved(0, 1), 10);
        b.move(1, 0, 3);
        c.due("still ten", b.moved(0, 1), 10);
        c.due("three back", b.moved(1, 0), 3);
    }

    @Sentence(promise = 14, text = "NONE, and nothing happens, without these (unlike).")
    static void p14WithoutThese(Case c) {
        BallotBook b = tenInABox(c);
        c.refused("alike", NONE, () -> b.move(0, 0, 1), () -> b.move(1, 1, 1));
        c.refused("no station", NONE, () -> b.move(0, 2, 1), () -> b.move(2, 0, 1), () -> b.move(-1, 0, 1),
                () -> b.move(0, -1, 1), () -> b.move(Case.MOST, 0, 1), () -> b.move(0, Case.LEAST, 1));
    }

    @Sentence(promise = 14, text = "NONE, and nothing happens, without these (unlike).")
    static void p14HowManyIsWrong(Case c) {
        BallotBook b = tenInABox(c);
        c.refused("how many", NONE, () -> b.move(0, 1, Case.MOST), () -> b.move(0, 1, Case.LEAST),
                () -> b.move(0, 1, -9));
        c.begin("papers 3");
        c.due("no stations", c.book.move(0, 1, 1), NONE);
    }

    // ---- promise 15 ----

    @Sentence(promise = 15, text = "LEND (the greatest 1 to 9 numbers of a STOCK that has so many are in another STOCK; MOVED likewise)")
    static void p15GreatestNine(Case c) {
        BallotBook b = c.begin("papers 40;station 0 19;station 30 30");
        c.refused("0 and 10", NONE, () -> b.lend(0, 1, 0), () -> b.lend(0, 1, 10), () -> b.lend(0, 1, -1));
        c.due("nine", b.lend(0, 1, 9), 10);
        c.due("10 stays", b.paper(10, 0), 0);
        for (int p = 11; p <= 19; p++) {
            c.due("is there", b.paper(p, 0) * 10 + b.paper(p, 1), 10);
        }
        c.due("moved", b.moved(0, 1), 9);
        c.due("stock", b.station(0, 0), 11);
        c.due("one", b.lend(0, 1, 1), 11);
        c.due("10 is there", b.paper(10, 0), 1);
        c.due("moved", b.moved(0, 1), 10);
    }

    @Sentence(promise = 15, text = "of a STOCK that has so many")
    static void p15NotSoMany(Case c) {
        BallotBook b = c.begin(Case.THREE);
        c.refused("three are there", NONE, () -> b.lend(2, 0, 4), () -> b.lend(2, 0, 9));
        c.due("all three", b.lend(2, 0, 3), 13);
        c.refused("an empty stock", NONE, () -> b.lend(2, 0, 1));
    }

    @Sentence(promise = 15, text = "of a STOCK that has so many")
    static void p15SpoiledAndBoxDoNotCount(Case c) {
        BallotBook b = c.begin(Case.THREE);
        c.due("four are in stock", b.lend(1, 2, 5), NONE);
        c.due("four", b.lend(1, 2, 4), 7);
        c.due("12 stays", b.paper(12, 0), 1);
        c.hours(2);
        c.due("eight are in stock", b.lend(0, 1, 9), NONE);
        c.due("eight", b.lend(0, 1, 8), 8);
        c.due("0 stays in the box", b.paper(0, 0), 0);
    }

    @Sentence(promise = 15, text = "how many are in the STOCK they come to then")
    static void p15ToSixty(Case c) {
        BallotBook b = c.begin("papers 60;station 0 50;station 51 59");
        c.due("all 60", b.lend(1, 0, 9), 60);
        c.due("none", b.station(1, 0), 0);
        c.due("nine back", b.lend(0, 1, 9), 9);
        c.due("the greatest", b.paper(59, 0), 1);
    }

    @Sentence(promise = 15, text = "NONE, and nothing happens, without these (unlike).")
    static void p15WithoutThese(Case c) {
        BallotBook b = c.begin(Case.THREE);
        c.refused("alike", NONE, () -> b.lend(0, 0, 1), () -> b.lend(2, 2, 3));
        c.refused("no station", NONE, () -> b.lend(0, 3, 1), () -> b.lend(3, 0, 1), () -> b.lend(-1, 0, 1),
                () -> b.lend(0, -1, 1), () -> b.lend(Case.LEAST, 0, 1), () -> b.lend(0, Case.MOST, 1));
        c.refused("how many", NONE, () -> b.lend(0, 1, Case.MOST), () -> b.lend(0, 1, Case.LEAST));
    }

    // ---- promise 16 ----

    @Sentence(promise = 16, text = "SPOIL (a PAPER that is in a STOCK or BOX is SPOILED there, behind all others)")
    static void p16OfStockAndBox(Case c) {
        BallotBook b = c.begin(Case.THREE);
        c.hours(5);
        c.due("of the stock", b.spoil(14), 3);
        c.due("of the box", b.spoil(11), 4);
        c.dueRow(1, 2, 12, 10, 14, 11);
        c.dueRow(1, 1);
        c.due("stock", b.station(1, 0), 1);
        b.lend(1, 0, 1);
        c.due("where it is now", b.spoil(13), 2);
        c.dueRow(0, 2, 3, 13);
    }

    @Sentence(promise = 16, text = "NONE, and nothing happens, without these.")
    static void p16WithoutThese(Case c) {
        BallotBook b = c.begin(Case.THREE);
        b.spoil(5);
        c.refused("spoiled already", NONE, () -> b.spoil(12), () -> b.spoil(5));
        c.refused("no paper", NONE, () -> b.spoil(15), () -> b.spoil(19), () -> b.spoil(20), () -> b.spoil(-1),
                () -> b.spoil(59), () -> b.spoil(60), () -> b.spoil(64), () -> b.spoil(Case.MOST),
                () -> b.spoil(Case.LEAST));
    }

    @Sentence(promise = 16, text = "how many are SPOILED there then")
    static void p16OneToSixty(Case c) {
        BallotBook b = c.begin("papers 60;station 0 59");
        for (int p = 0; p < 60; p++) {
            c.due("spoil " + p, b.spoil(p), p + 1);
        }
        c.due("stock", b.station(0, 0), 0);
        c.due("last", b.row(0, 2, 59), 59);
    }

    // ---- promise 17 ----

    @Sentence(promise = 17, text = "FIND (a PAPER that is SPOILED is in the BOX of that STATION, behind all others)")
    static void p17BehindAllOthers(Case c) {
        BallotBook b = c.begin(Case.THREE);
        c.hours(6);
        c.due("12", b.find(12), 3);
        c.due("10", b.find(10), 4);
        c.dueRow(1, 1, 11, 13, 12, 10);
        c.dueRow(1, 2);
        c.due("3", b.find(3), 5);
        c.dueRow(0, 1, 0, 1, 2, 4, 3);
        c.due("nobody was served by that", b.count(8), 0);
    }

    @Sentence(promise = 17, text = "NONE, and nothing happens, without these.")
    static void p17WithoutThese(Case c) {
        BallotBook b = c.begin(Case.THREE);
        c.hours(1);
        b.find(12);
        c.refused("in stock", NONE, () -> b.find(1), () -> b.find(18));
        c.refused("in a box", NONE, () -> b.find(0), () -> b.find(12));
        c.refused("no paper", NONE, () -> b.find(15), () -> b.find(20), () -> b.find(-1), () -> b.find(60),
                () -> b.find(Case.MOST), () -> b.find(Case.LEAST));
    }

    // ---- promise 18 ----

    @Sentence(promise = 18, text = "SEND (1 to 9 who WAIT at a STATION where so many do WAIT at another one)")
    static void p18OneToNine(Case c) {
        BallotBook b = c.begin("papers 4;station 0 0;station 1 1;voters 0 11;voters 1 60");
        c.refused("0 and 10", NONE, () -> b.send(0, 1, 0), () -> b.send(0, 1, 10), () -> b.send(0, 1, -1));
        c.due("nine", b.send(0, 1, 9), 69);
        c.due("two are left", b.station(0, 3), 2);
        c.refused("three", NONE, () -> b.send(0, 1, 3));
        c.due("one", b.send(0, 1, 1), 70);
        c.due("the last one", b.send(0, 1, 1), 71);
        c.refused("nobody waits", NONE, () -> b.send(0, 1, 1));
        c.due("nine back", b.send(1, 0, 9), 9);
    }

    @Sentence(promise = 18, text = "how many WAIT at the other one then")
    static void p18MoreThanATextCanTell(Case c) {
        BallotBook b = c.begin("papers 4;station 0 0;station 1 1;station 2 2;voters 0 60;voters 1 60");
        for (int i = 1; i <= 6; i++) {
            c.due("from 0", b.send(0, 1, 9), 60 + 9 * i);
        }
        c.due("all together", b.count(8), 120);
        c.due("the last six", b.send(0, 1, 6), 120);
        c.due("to an empty one", b.send(1, 2, 1), 1);
    }

    @Sentence(promise = 18, text = "NONE, and nothing happens, without these (unlike).")
    static void p18WithoutThese(Case c) {
        BallotBook b = c.begin(Case.THREE);
        c.refused("alike", NONE, () -> b.send(0, 0, 1), () -> b.send(1, 1, 2));
        c.refused("no station", NONE, () -> b.send(0, 3, 1), () -> b.send(3, 0, 1), () -> b.send(-1, 0, 1),
                () -> b.send(0, -1, 1), () -> b.send(0, Case.MOST, 1), () -> b.send(Case.LEAST, 0, 1));
        c.refused("how many", NONE, () -> b.send(0, 1, Case.MOST), () -> b.send(0, 1, Case.LEAST));
    }

    // ---- promise 19 ----

    @Sentence(promise = 19, text = "TELL what 0: STOCK, 1: BOX, 2: SPOILED: how many of the three are TOLD of that STATION then")
    static void p19HowManyOfTheThree(Case c) {
        BallotBook b = c.begin(Case.THREE);
        c.due("spoiled", b.tell(1, 2, 0), 1);
        c.due("spoiled again", b.tell(1, 2, 1), 1);
        c.due("stock", b.tell(1, 0, 4), 2);
        c.due("of another one", b.tell(2, 0, 4), 1);
        c.due("box", b.tell(1, 1, 0), 3);
        c.due("box again", b.tell(1, 1, 7), 3);
        c.due("told", b.told(1, 0) * 10000 + b.told(1, 1) * 100 + b.told(1, 2), 40701);
    }

    @Sentence(promise = 19, text = "are TOLD as a number 0 to 60")
    static void p19NoughtToSixty(Case c) {
        BallotBook b = c.begin(Case.THREE);
        c.due("0", b.tell(0, 0, 0), 1);
        c.due("60", b.tell(0, 1, 60), 2);
        c.refused("beyond", NONE, () -> b.tell(0, 0, -1), () -> b.tell(0, 0, 61), () -> b.tell(0, 2, 61),
                () -> b.tell(0, 0, Case.MOST), () -> b.tell(0, 0, Case.LEAST), () -> b.tell(0, 0, -2));
    }

    @Sentence(promise = 19, text = "can be as it was")
    static void p19AsItWas(Case c) {
        BallotBook b = c.begin(Case.THREE);
        b.tell(0, 0, 5);
        c.due("the same number", b.tell(0, 0, 5), 1);
        c.due("is an act", b.count(11), 2);
        b.undo();
        c.due("told still", b.told(0, 0), 5);
        b.undo();
        c.due("nothing told", b.told(0, 0), -2);
    }

    @Sentence(promise = 19, text = "TELL (of a STATION that is not RECOUNTED its STOCK, BOX or SPOILED ones")
    static void p19NotOfARecountedOne(Case c) {
        BallotBook b = c.begin(Case.THREE);
        b.recount(1);
        c.refused("recounted", NONE, () -> b.tell(1, 0, 4), () -> b.tell(1, 1, 9), () -> b.tell(1, 2, 0));
        c.due("of another one", b.tell(0, 0, 4), 1);
        b.undo();
        b.undo();
        c.due("the recount is undone", b.tell(1, 0, 9), 1);
    }

    @Sentence(promise = 19, text = "NONE, and nothing happens, without these.")
    static void p19WithoutThese(Case c) {
        BallotBook b = c.begin(Case.THREE);
        c.refused("no station", NONE, () -> b.tell(3, 0, 1), () -> b.tell(-1, 0, 1), () -> b.tell(Case.MOST, 0, 1),
                () -> b.tell(Case.LEAST, 0, 1));
        c.refused("no such what", NONE, () -> b.tell(0, 3, 1), () -> b.tell(0, -1, 1), () -> b.tell(0, Case.MOST, 1),
                () -> b.tell(0, Case.LEAST, 1));
    }

    // ---- promise 20 ----

    @Sentence(promise = 20, text = "RECOUNT (of a STATION that is not RECOUNTED: all three are TOLD as they are now; it is RECOUNTED)")
    static void p20AsTheyAreNow(Case c) {
        BallotBook b = c.begin(Case.THREE);
        c.tellAll(0, 60, 60, 60);
        c.hours(4);
        c.due("recount", b.recount(0), 1);
        c.due("told", b.told(0, 0) * 10000 + b.told(0, 1) * 100 + b.told(0, 2), 50401);
        c.due("recounted", b.station(0, 5), 1);
        b.spoil(0);
        c.due("told stays as it was then", b.told(0, 1), 4);
        b.undo();
        b.undo();
        c.due("what was told is told again", b.told(0, 2), 60);
    }

    @Sentence(promise = 20, text = "how many STATIONS are RECOUNTED then")
    static void p20HowMany(Case c) {
        BallotBook b = c.begin("papers 9;station 0 0;station 1 1;station 2 2;station 3 3;station 4 4");
        int[] order = {3, 0, 4, 2, 1};
        for (int i = 0; i < 5; i++) {
            c.due("recount " + order[i], b.recount(order[i]), i + 1);
        }
        c.refused("all are", NONE, () -> b.recount(0), () -> b.recount(4));
    }

    @Sentence(promise = 20, text = "NONE, and nothing happens, without these.")
    static void p20WithoutThese(Case c) {
        BallotBook b = c.begin(Case.THREE);
        b.recount(1);
        b.lend(1, 0, 1);
        c.refused("recounted already", NONE, () -> b.recount(1));
        c.refused("no station", NONE, () -> b.recount(3), () -> b.recount(-1), () -> b.recount(32),
                () -> b.recount(Case.MOST), () -> b.recount(Case.LEAST));
    }

    // ---- promise 21 ----

    /** One act from a well used book on, undone. */
    private static void undone(Case c, String name, int act) {
        BallotBook b = c.begin(Case.THREE);
        c.hours(5);
        b.spoil(6);
        b.tell(0, 0, 4);
        String before = c.state();
        IntSupplier[] acts = {b::hour, () -> b.move(0, 1, 3), () -> b.lend(0, 2, 2), () -> b.spoil(1),
            () -> b.find(6), () -> b.send(1, 0, 1), () -> b.tell(0, 0, 7), () -> b.recount(0)};
        int answer = acts[act].getAsInt();
        c.due(name + " was done", answer < 0 ? 0 : 1, 1);
        c.due(name + " is undone", b.undo(), 7);
        c.same(name, before);
        c.due(name + " can be done again", acts[act].getAsInt(), answer);
    }

    @Sentence(promise = 21, text = "ACTS: an HOUR")
    static void p21AnHour(Case c) {
        undone(c, "hour", 0);
    }

    @Sentence(promise = 21, text = "MOVE (the first 1 to 9 PAPERS of a BOX")
    static void p21AMove(Case c) {
        undone(c, "move", 1);
    }

    @Sentence(promise = 21, text = "LEND (the greatest 1 to 9 numbers of a STOCK")
    static void p21ALending(Case c) {
        undone(c, "lend", 2);
    }

    @Sentence(promise = 21, text = "SPOIL (a PAPER that is in a STOCK or BOX")
    static void p21ASpoiling(Case c) {
        undone(c, "spoil", 3);
    }

    @Sentence(promise = 21, text = "FIND (a PAPER that is SPOILED")
    static void p21AFinding(Case c) {
        undone(c, "find", 4);
    }

    @Sentence(promise = 21, text = "SEND (1 to 9 who WAIT at a STATION")
    static void p21ASending(Case c) {
        undone(c, "send", 5);
    }

    @Sentence(promise = 21, text = "TELL (of a STATION that is not RECOUNTED")
    static void p21ATelling(Case c) {
        undone(c, "tell", 6);
    }

    @Sentence(promise = 21, text = "RECOUNT (of a STATION that is not RECOUNTED")
    static void p21ARecount(Case c) {
        undone(c, "recount", 7);
    }

    @Sentence(promise = 21, text = "The last 20 can be UNDONE, the last first.")
    static void p21TheLastTwenty(Case c) {
        BallotBook b = c.begin("papers 3;station 0 2");
        for (int act = 1; act <= 21; act++) {
            b.tell(0, 0, act);
            c.due("can be undone", b.count(11), Math.min(act, 20));
        }
        for (int left = 19; left >= 0; left--) {
            c.due("undo", b.undo(), left);
            c.due("as it was", b.told(0, 0), left + 1);
        }
        c.refused("the first act stays", NONE, b::undo);
        c.due("told", b.told(0, 0), 1);
    }

    @Sentence(promise = 21, text = "The last 20 can be UNDONE, the last first.")
    static void p21RoundAndRound(Case c) {
        BallotBook b = c.begin("papers 3;station 0 2");
        for (int act = 1; act <= 47; act++) {
            b.tell(0, 0, act);
        }
        for (int left = 19; left >= 13; left--) {
            c.due("undo", b.undo(), left);
        }
        c.due("as it was", b.told(0, 0), 40);
        for (int act = 1; act <= 10; act++) {
            b.tell(0, 1, act);
        }
        c.due("twenty again", b.count(11), 20);
        for (int left = 19; left >= 0; left--) {
            c.due("undo", b.undo(), left);
        }
        c.due("ten of the old ones are undone", b.told(0, 0), 30);
        c.due("and all new ones", b.told(0, 1), -2);
    }

    @Sentence(promise = 21, text = "NONE, and nothing happens: none can.")
    static void p21NoneCan(Case c) {
        c.refused("new", NONE, c.book::undo);
        c.begin(Case.THREE);
        c.refused("at the begin", NONE, c.book::undo);
        c.book.hour();
        c.due("one", c.book.undo(), 0);
        c.refused("no more", NONE, c.book::undo, c.book::undo);
    }

    @Sentence(promise = 21, text = "The last ACT is UNDONE: how many more can be")
    static void p21WhatIsRefusedIsNoAct(Case c) {
        BallotBook b = c.begin(Case.THREE);
        b.hour();
        b.move(0, 1, 2);
        b.lend(0, 0, 1);
        b.spoil(12);
        b.find(0);
        b.send(2, 0, 1);
        b.tell(0, 0, 61);
        b.recount(3);
        c.due("one act", b.count(11), 1);
        c.due("undo", b.undo(), 0);
        c.due("hour", b.count(4), 0);
    }

    @Sentence(promise = 21, text = "The last ACT is UNDONE: how many more can be")
    static void p21WhatIsNoAct(Case c) {
        BallotBook b = c.begin(Case.THREE);
        b.hour();
        c.rule("serve 1");
        b.force(0);
        b.seed(9);
        b.note(0, 0, 1);
        b.image(0);
        c.put("papers");
        c.due("one act", b.count(11), 1);
        c.due("undo", b.undo(), 0);
        c.due("rules", b.count(2), 1);
        c.due("in force", b.count(3), 0);
        c.due("x", b.count(12), 9);
        c.due("notes", b.count(10), 1);
        c.due("tape", b.count(13), 6);
    }

    @Sentence(promise = 21, text = "The last ACT is UNDONE: how many more can be")
    static void p21AnHourInWhichNoneServes(Case c) {
        BallotBook b = c.begin("papers 3;station 0 2");
        c.due("none", b.hour(), -2);
        c.due("it is an act", b.count(11), 1);
        c.due("undo", b.undo(), 0);
        c.due("hour", b.count(4), 0);
    }

    // ---- promise 22 ----

    /** Number 0 goes to and fro between two stocks. */
    private static BallotBook toAndFro(Case c, int times) {
        BallotBook b = c.begin("papers 2;station 0 0;station 1 1;spoiled 1");
        for (int i = 0; i < times; i++) {
            c.due("lend", b.lend(i % 2, 1 - i % 2, 1), 1);
        }
        return b;
    }

    @Sentence(promise = 22, text = "WAY of a PAPER: by how many MOVES and LENDINGS it was so far")
    static void p22ByHowMany(Case c) {
        BallotBook b = c.begin(Case.THREE);
        c.due("none", b.way(0, 0), 0);
        c.hours(1);
        c.due("an hour is none", b.way(0, 0), 0);
        b.move(0, 1, 1);
        c.due("a move", b.way(0, 0), 1);
        b.spoil(0);
        b.find(0);
        c.due("spoiling and finding are none", b.way(0, 0), 1);
        b.lend(0, 2, 1);
        c.due("a lending", b.way(9, 0), 1);
        c.due("8 was not in it", b.way(8, 0), 0);
        b.move(1, 2, 1);
        c.due("two", b.way(0, 0), 2);
        c.due("behind the first", b.way(0, 1), 1);
        c.due("behind the second", b.way(0, 2), 2);
        b.undo();
        c.due("undone", b.way(0, 0), 1);
        c.due("undone", b.way(0, 2), -2);
    }

    @Sentence(promise = 22, text = "(the first 12 are kept, so 12 at most)")
    static void p22TwelveAreKept(Case c) {
        BallotBook b = toAndFro(c, 12);
        c.due("twelve", b.way(0, 0), 12);
        c.due("the twelfth", b.way(0, 12), 0);
        c.due("a thirteenth", b.way(0, 13), -2);
        toAndFro(c, 13);
        c.due("twelve at most", c.book.way(0, 0), 12);
        c.due("where it is", c.book.paper(0, 0), 1);
        for (int k = 1; k <= 12; k++) {
            c.due("step " + k, c.book.way(0, k), k % 2);
        }
        c.due("the thirteenth is not kept", c.book.way(0, 13), -2);
        c.book.undo();
        c.book.undo();
        c.due("eleven", c.book.way(0, 0), 11);
        c.due("the twelfth is undone", c.book.way(0, 12), -2);
    }

    @Sentence(promise = 22, text = "(-2: so many are not kept)")
    static void p22NotSoMany(Case c) {
        BallotBook b = toAndFro(c, 1);
        c.due("the first", b.way(0, 1), 1);
        c.refused("beyond", -2, () -> b.way(0, 2), () -> b.way(0, 12), () -> b.way(0, 13), () -> b.way(0, 21),
                () -> b.way(0, 64), () -> b.way(0, Case.MOST), () -> b.way(1, 1));
    }

    @Sentence(promise = 22, text = "NONE without these (k 0 or more).")
    static void p22WithoutThese(Case c) {
        BallotBook b = c.begin(Case.THREE);
        c.refused("k below 0", NONE, () -> b.way(0, -1), () -> b.way(0, -2), () -> b.way(0, Case.LEAST));
        c.refused("no paper", NONE, () -> b.way(15, 0), () -> b.way(20, 0), () -> b.way(-1, 0), () -> b.way(60, 1),
                () -> b.way(Case.MOST, 0), () -> b.way(Case.LEAST, 0));
    }

    @Sentence(promise = 22, text = "at which STATION it was behind the k-th of these")
    static void p22FiveStations(Case c) {
        BallotBook b = c.begin("papers 5;station 0 0;station 1 1;station 2 2;station 3 3;station 4 4");
        b.spoil(0);
        b.find(0);
        int[] way = {4, 3, 2, 1, 0, 4, 0, 1, 4, 2, 3, 4};
        int at = 0;
        for (int to : way) {
            b.move(at, to, 1);
            at = to;
        }
        for (int k = 1; k <= way.length; k++) {
            c.due("step " + k, b.way(0, k), way[k - 1]);
        }
    }
}
