/** Promises 7 to 12: how it stands. */
final class StandSentences {
    private static final int NONE = Case.NONE;

    private StandSentences() {
    }

    // ---- promise 7 ----

    @Sentence(promise = 7, text = "Of a STATION what 0: how many are in STOCK, 1: in its BOX, 2: SPOILED, 3: how many WAIT")
    static void p07WhatTheHoursChange(Case c) {
        c.begin(Case.THREE);
        int[] first = {10, 0, 0, 4};
        int[] then = {5, 4, 1, 0};
        for (int what = 0; what < 4; what++) {
            c.due("at first " + what, c.book.station(0, what), first[what]);
        }
        // 0 1 2 into the box, 3 is spoiled, 4 into the box
        c.hours(4);
        for (int what = 0; what < 4; what++) {
            c.due("behind hour 3 " + what, c.book.station(0, what), then[what]);
        }
    }

    @Sentence(promise = 7, text = "Of a STATION what 0: how many are in STOCK, 1: in its BOX, 2: SPOILED, 3: how many WAIT")
    static void p07Full(Case c) {
        c.begin("papers 60;station 0 59;voters 0 60");
        c.due("stock", c.book.station(0, 0), 60);
        c.due("wait", c.book.station(0, 3), 60);
        for (int paper = 0; paper < 60; paper++) {
            c.book.spoil(paper);
        }
        c.due("stock", c.book.station(0, 0), 0);
        c.due("spoiled", c.book.station(0, 2), 60);
        for (int paper = 0; paper < 60; paper++) {
            c.book.find(paper);
        }
        c.due("box", c.book.station(0, 1), 60);
        c.due("spoiled", c.book.station(0, 2), 0);
    }

    @Sentence(promise = 7, text = "4: how many numbers it was told to have")
    static void p07ToldToHave(Case c) {
        c.begin(Case.THREE);
        c.due("a spoiled one counts", c.book.station(1, 4), 5);
        c.book.lend(1, 0, 4);
        c.book.lend(0, 2, 9);
        c.due("lending changes nothing", c.book.station(1, 4), 5);
        c.due("nor there", c.book.station(2, 4), 3);
    }

    @Sentence(promise = 7, text = "5: 1 if it is RECOUNTED, else 0")
    static void p07Recounted(Case c) {
        c.begin(Case.THREE);
        c.due("not yet", c.book.station(1, 5), 0);
        c.book.recount(1);
        c.due("recounted", c.book.station(1, 5), 1);
        c.due("another one", c.book.station(0, 5), 0);
        c.book.undo();
        c.due("undone", c.book.station(1, 5), 0);
    }

    @Sentence(promise = 7, text = "NONE without these.")
    static void p07WithoutThese(Case c) {
        c.begin(Case.THREE);
        BallotBook b = c.book;
        c.refused("no station", NONE, () -> b.station(3, 0), () -> b.station(-1, 0), () -> b.station(5, 4),
                () -> b.station(3, 5), () -> b.station(Case.MOST, 0), () -> b.station(Case.LEAST, 4));
        c.refused("no such what", NONE, () -> b.station(0, -1), () -> b.station(0, 6), () -> b.station(0, Case.MOST),
                () -> b.station(0, Case.LEAST));
        c.begin("papers 9");
        c.due("no stations at all", c.book.station(0, 0), NONE);
    }

    // ---- promise 8 ----

    @Sentence(promise = 8, text = "Of a PAPER what 0: the STATION")
    static void p08TheStation(Case c) {
        c.begin(Case.THREE);
        c.due("told", c.book.paper(9, 0), 0);
        c.book.lend(0, 2, 1);
        c.due("lent", c.book.paper(9, 0), 2);
        c.book.hour();
        c.due("in the box", c.book.paper(0, 0), 0);
        c.book.move(0, 1, 1);
        c.due("moved", c.book.paper(0, 0), 1);
        c.book.spoil(0);
        c.due("spoiled there", c.book.paper(0, 0), 1);
    }

    @Sentence(promise = 8, text = "1: 0 in STOCK, 1 in the BOX, 2 SPOILED")
    static void p08WhereThere(Case c) {
        c.begin(Case.THREE);
        c.due("spoiled by the text", c.book.paper(12, 1), 2);
        c.due("stock", c.book.paper(3, 1), 0);
        c.hours(4);
        c.due("spoiled as its rest by 7 is 3", c.book.paper(3, 1), 2);
        c.due("in its place", c.book.paper(4, 1), 1);
        c.due("stock", c.book.paper(5, 1), 0);
    }

    @Sentence(promise = 8, text = "2: its place in the BOX, or of the SPOILED ones (from 0; in STOCK how many there have a lesser number)")
    static void p08ItsPlace(Case c) {
        c.begin(Case.THREE);
        c.hours(5);
        c.due("first in the box", c.book.paper(0, 2), 0);
        c.due("last in the box", c.book.paper(4, 2), 3);
        c.due("first of the spoiled ones", c.book.paper(12, 2), 0);
        c.due("behind it, though less", c.book.paper(10, 2), 1);
        c.book.move(0, 2, 1);
        c.due("one place ahead", c.book.paper(4, 2), 2);
        c.due("first there", c.book.paper(0, 2), 0);
    }

    @Sentence(promise = 8, text = "in STOCK how many there have a lesser number")
    static void p08PlaceInStock(Case c) {
        c.begin(Case.THREE);
        c.due("least", c.book.paper(10, 2), 0);
        c.due("12 is not in stock", c.book.paper(13, 2), 2);
        c.book.lend(1, 2, 2);
        c.due("ahead of 16", c.book.paper(13, 2), 0);
        c.due("two are less", c.book.paper(16, 2), 2);
        c.begin("papers 60;station 0 59");
        c.due("the greatest of 60", c.book.paper(59, 2), 59);
        c.due("the least of 60", c.book.paper(0, 2), 0);
    }

    @Sentence(promise = 8, text = "NONE without these.")
    static void p08WithoutThese(Case c) {
        c.begin(Case.THREE);
        BallotBook b = c.book;
        c.refused("printed, but no station's", NONE, () -> b.paper(15, 0), () -> b.paper(19, 1));
        c.refused("not printed", NONE, () -> b.paper(20, 0), () -> b.paper(-1, 0), () -> b.paper(60, 0),
                () -> b.paper(63, 2), () -> b.paper(64, 2), () -> b.paper(Case.MOST, 0), () -> b.paper(Case.LEAST, 0));
        c.refused("no such what", NONE, () -> b.paper(0, -1), () -> b.paper(0, 3), () -> b.paper(0, Case.MOST),
                () -> b.paper(0, Case.LEAST));
    }

    @Sentence(promise = 8, text = "A PAPER (a number of a STATION) is in the STOCK of a STATION, in its BOX, or SPOILED there.")
    static void p08EachPaperIsSomewhere(Case c) {
        c.begin(Case.THREE);
        c.hours(5);
        c.book.move(0, 1, 3);
        c.book.lend(0, 2, 2);
        c.book.spoil(1);
        c.book.find(3);
        int[] seen = new int[3];
        for (int p = 0; p < 20; p++) {
            if (p != 15 && p != 19) {
                seen[Math.floorMod(c.book.paper(p, 1), 3)]++;
            }
        }
        for (int what = 0; what < 3; what++) {
            c.due("all of kind " + what, seen[what], c.book.count(5 + what));
        }
    }

    // ---- promise 9 ----

    @Sentence(promise = 9, text = "The number of the PAPER in a place of a BOX (what 1), or of the SPOILED ones (what 2)")
    static void p09BoxAndSpoiled(Case c) {
        c.begin(Case.THREE);
        c.hours(6);
        c.dueRow(0, 1, 0, 1, 2, 4);
        c.dueRow(0, 2, 3);
        c.dueRow(1, 1, 11, 13);
        c.dueRow(1, 2, 12, 10);
        c.dueRow(2, 1);
        c.dueRow(2, 2);
    }

    @Sentence(promise = 9, text = "BOXES and SPOILED ones are rows, the first one put in first.")
    static void p09FirstPutInFirst(Case c) {
        c.begin("papers 9;station 0 8");
        int[] order = {7, 2, 8, 0};
        for (int paper : order) {
            c.book.spoil(paper);
        }
        c.dueRow(0, 2, 7, 2, 8, 0);
        c.book.find(8);
        c.book.find(7);
        c.dueRow(0, 2, 2, 0);
        c.dueRow(0, 1, 8, 7);
        c.book.spoil(8);
        c.dueRow(0, 2, 2, 0, 8);
        c.dueRow(0, 1, 7);
    }

    @Sentence(promise = 9, text = "NONE without these.")
    static void p09WithoutThese(Case c) {
        c.begin(Case.THREE);
        c.hours(4);
        BallotBook b = c.book;
        c.refused("no such place", NONE, () -> b.row(0, 1, 4), () -> b.row(0, 1, -1), () -> b.row(0, 1, Case.MOST),
                () -> b.row(0, 1, Case.LEAST), () -> b.row(0, 2, 1), () -> b.row(2, 1, 0));
        c.refused("stock is no row", NONE, () -> b.row(0, 0, 0), () -> b.row(0, 3, 0), () -> b.row(0, -1, 0),
                () -> b.row(0, Case.MOST, 0));
        c.refused("no station", NONE, () -> b.row(3, 1, 0), () -> b.row(-1, 1, 0), () -> b.row(Case.LEAST, 1, 0));
    }

    // ---- promise 10 ----

    @Sentence(promise = 10, text = "run NONE: how many (what is not asked for)")
    static void p10HowMany(Case c) {
        c.begin(Case.THREE);
        c.due("one", c.book.runs(0, NONE, 0), 1);
        c.due("two", c.book.runs(1, NONE, 1), 2);
        c.due("what 2", c.book.runs(1, NONE, 2), 2);
        c.due("what below", c.book.runs(1, NONE, Case.LEAST), 2);
        c.due("what above", c.book.runs(1, NONE, Case.MOST), 2);
    }

    @Sentence(promise = 10, text = "run NONE: how many (what is not asked for)")
    static void p10NoneAndThirty(Case c) {
        c.begin("papers 4;station 0 1;spoiled 0;spoiled 1");
        c.due("an empty stock", c.book.runs(0, NONE, 0), 0);
        c.due("its first run", c.book.runs(0, 0, 0), -2);
        c.begin("papers 60;station 0 59");
        for (int paper = 0; paper < 60; paper += 2) {
            c.book.spoil(paper);
        }
        c.due("thirty", c.book.runs(0, NONE, 0), 30);
        c.due("the last begins", c.book.runs(0, 29, 0), 59);
        c.due("the last ends", c.book.runs(0, 29, 1), 59);
        c.due("no more", c.book.runs(0, 30, 0), -2);
    }

    @Sentence(promise = 10, text = "else of that RUN (from 0, the least first) what 0: its first, 1: its last number")
    static void p10FirstAndLast(Case c) {
        c.begin(Case.THREE);
        int[][] runs = {{10, 11}, {13, 14}};
        for (int run = 0; run < 2; run++) {
            for (int what = 0; what < 2; what++) {
                c.due("run " + run + ", " + what, c.book.runs(1, run, what), runs[run][what]);
            }
        }
        c.begin("papers 60;station 0 59");
        c.due("from 0", c.book.runs(0, 0, 0), 0);
        c.due("to 59", c.book.runs(0, 0, 1), 59);
    }

    @Sentence(promise = 10, text = "else of that RUN (from 0, the least first) what 0: its first, 1: its last number")
    static void p10BehindARunOf0(Case c) {
        c.begin("papers 9;station 0 8;spoiled 1;spoiled 4");
        int[][] runs = {{0, 0}, {2, 3}, {5, 8}};
        c.due("three", c.book.runs(0, NONE, 0), 3);
        for (int run = 0; run < 3; run++) {
            c.due("first of " + run, c.book.runs(0, run, 0), runs[run][0]);
            c.due("last of " + run, c.book.runs(0, run, 1), runs[run][1]);
        }
    }

    @Sentence(promise = 10, text = "A RUN of a STOCK: numbers one behind the other, as many as there are on end.")
    static void p10RunsGrowAndPart(Case c) {
        c.begin("papers 20;station 0 4;station 5 9;station 10 19");
        c.book.lend(1, 0, 5);
        c.due("5 to 9 come on end", c.book.runs(0, NONE, 0), 1);
        c.due("to 9", c.book.runs(0, 0, 1), 9);
        c.book.spoil(0);
        c.due("still one", c.book.runs(0, NONE, 0), 1);
        c.due("from 1", c.book.runs(0, 0, 0), 1);
        c.book.spoil(5);
        c.due("parted", c.book.runs(0, NONE, 0), 2);
        c.due("to 4", c.book.runs(0, 0, 1), 4);
        c.due("from 6", c.book.runs(0, 1, 0), 6);
        c.book.lend(2, 0, 1);
        c.due("19 alone", c.book.runs(0, 2, 0) * 100 + c.book.runs(0, 2, 1), 1919);
        c.book.find(5);
        c.due("a box is no stock", c.book.runs(0, NONE, 0), 3);
    }

    @Sentence(promise = 10, text = "-2 without these.")
    static void p10WithoutThese(Case c) {
        c.begin(Case.THREE);
        BallotBook b = c.book;
        c.refused("no station", -2, () -> b.runs(3, NONE, 0), () -> b.runs(-1, NONE, 0), () -> b.runs(-1, 0, 0),
                () -> b.runs(Case.MOST, 0, 0), () -> b.runs(Case.LEAST, NONE, 0));
        c.refused("no run", -2, () -> b.runs(1, 2, 0), () -> b.runs(1, -2, 0), () -> b.runs(1, Case.MOST, 1),
                () -> b.runs(1, Case.LEAST, 1), () -> b.runs(1, 64, 1));
        c.refused("no such what", -2, () -> b.runs(1, 0, 2), () -> b.runs(1, 0, -1), () -> b.runs(1, 0, Case.MOST),
                () -> b.runs(1, 0, Case.LEAST));
    }

    // ---- promise 11 ----

    @Sentence(promise = 11, text = "MOVED from a STATION to another one")
    static void p11FromTo(Case c) {
        c.begin(Case.THREE);
        c.due("nothing yet", c.book.moved(0, 1), 0);
        c.book.lend(0, 1, 4);
        c.hours(2);
        c.book.move(0, 1, 2);
        c.book.lend(1, 0, 1);
        c.due("both together", c.book.moved(0, 1), 6);
        c.due("the other way apart", c.book.moved(1, 0), 1);
        c.due("not elsewhere", c.book.moved(0, 2), 0);
        c.due("nor there", c.book.moved(2, 0), 0);
    }

    @Sentence(promise = 11, text = "NONE without these.")
    static void p11WithoutThese(Case c) {
        c.begin(Case.THREE);
        BallotBook b = c.book;
        c.refused("to itself", NONE, () -> b.moved(0, 0), () -> b.moved(2, 2));
        c.refused("no station", NONE, () -> b.moved(0, 3), () -> b.moved(3, 0), () -> b.moved(-1, 0),
                () -> b.moved(0, -1), () -> b.moved(Case.MOST, 0), () -> b.moved(0, Case.LEAST));
    }

    // ---- promise 12 ----

    @Sentence(promise = 12, text = "What was TOLD of a STATION what 0: STOCK, 1: BOX, 2: SPOILED (-2: nothing).")
    static void p12WhatWasTold(Case c) {
        c.begin(Case.THREE);
        for (int what = 0; what < 3; what++) {
            c.due("nothing yet " + what, c.book.told(2, what), -2);
            c.book.tell(2, what, 20 + what);
        }
        for (int what = 0; what < 3; what++) {
            c.due("told " + what, c.book.told(2, what), 20 + what);
        }
        c.due("of another one", c.book.told(1, 0), -2);
    }

    @Sentence(promise = 12, text = "(-2: nothing)")
    static void p12NoughtIsNotNothing(Case c) {
        c.begin(Case.THREE);
        c.book.tell(0, 1, 0);
        c.due("0 was told", c.book.told(0, 1), 0);
        c.due("nothing of stock", c.book.told(0, 0), -2);
        c.book.tell(0, 1, 60);
        c.due("60, the last told", c.book.told(0, 1), 60);
        c.book.undo();
        c.book.undo();
        c.due("undone", c.book.told(0, 1), -2);
    }

    @Sentence(promise = 12, text = "NONE without these.")
    static void p12WithoutThese(Case c) {
        c.begin(Case.THREE);
        c.tellAll(0, 1, 2, 3);
        BallotBook b = c.book;
        c.refused("no station", NONE, () -> b.told(3, 0), () -> b.told(-1, 0), () -> b.told(Case.MOST, 0),
                () -> b.told(Case.LEAST, 0));
        c.refused("no such what", NONE, () -> b.told(0, 3), () -> b.told(0, -1), () -> b.told(0, Case.MOST),
                () -> b.told(0, Case.LEAST));
    }
}
