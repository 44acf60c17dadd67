/** Promises 23 to 27: balances, the fewest slips, where they must be and need not, what a recount would leave. */
final class SlipSentences {
    private static final int NONE = Case.NONE;

    private SlipSentences() {
    }

    /** Stations of ten numbers each, told so that their balances are these (50 of them at most above, 10 below). */
    private static BallotBook gaps(Case c, int... gaps) {
        StringBuilder text = new StringBuilder("papers 60");
        for (int s = 0; s < gaps.length; s++) {
            text.append(";station ").append(10 * s).append(' ').append(10 * s + 9);
        }
        c.begin(text.toString());
        for (int s = 0; s < gaps.length; s++) {
            int all = 10 - gaps[s];
            int stock = Math.min(all, 60);
            c.tellAll(s, stock, all - stock, 0);
        }
        return c.book;
    }

    /** How many slips, tens, slips of moved, and the tens of each station. */
    private static void dueSlips(Case c, int many, int tens, int moved, int... tensOf) {
        c.due("slips", c.book.slips(0), many);
        c.due("tens", c.book.slips(1), tens);
        c.due("slips of moved", c.book.slips(2), moved);
        for (int s = 0; s < tensOf.length; s++) {
            c.due("tens of station " + s, c.book.slips(3 + s), tensOf[s] + 100);
        }
    }

    // ---- promise 23 ----

    @Sentence(promise = 23, text = "BALANCE of a STATION: how many numbers it was told to have, and MOVED there, less MOVED from there, "
            + "less STOCK, BOX and SPOILED as TOLD.")
    static void p23Balance(Case c) {
        BallotBook b = c.begin(Case.THREE);
        c.tellAll(0, 3, 2, 1);
        c.due("10 - 6", b.balance(0), 1004);
        b.lend(0, 1, 3);
        c.due("3 went away", b.balance(0), 1001);
        b.lend(2, 0, 2);
        c.due("2 came", b.balance(0), 1003);
        c.hours(4);
        b.spoil(5);
        c.due("what is there does not count", b.balance(0), 1003);
        b.move(0, 2, 3);
        c.due("3 more went away", b.balance(0), 1000);
    }

    @Sentence(promise = 23, text = "BALANCE, and 1000; -2: not all three are TOLD of it; NONE without that STATION.")
    static void p23FarOff(Case c) {
        BallotBook b = c.begin("papers 60;station 0 58;station 59 59");
        c.tellAll(0, 0, 0, 0);
        c.due("59 are missing", b.balance(0), 1059);
        c.tellAll(1, 60, 60, 60);
        c.due("179 too many", b.balance(1), 821);
        for (int i = 0; i < 6; i++) {
            b.lend(0, 1, 9);
        }
        c.due("54 of them went", b.balance(0), 1005);
        c.due("there", b.balance(1), 875);
    }

    @Sentence(promise = 23, text = "-2: not all three are TOLD of it")
    static void p23NotAllThree(Case c) {
        BallotBook b = c.begin(Case.THREE);
        c.due("none", b.balance(0), -2);
        b.tell(0, 2, 0);
        c.due("one", b.balance(0), -2);
        b.tell(0, 0, 10);
        c.due("two", b.balance(0), -2);
        b.tell(0, 1, 0);
        c.due("three", b.balance(0), 1000);
        c.due("another one", b.balance(1), -2);
        b.undo();
        c.due("two again", b.balance(0), -2);
        b.recount(1);
        c.due("recounted", b.balance(1), 1000);
    }

    @Sentence(promise = 23, text = "NONE without that STATION")
    static void p23NoStation(Case c) {
        BallotBook b = c.begin(Case.THREE);
        c.refused("no station", NONE, () -> b.balance(3), () -> b.balance(-1), () -> b.balance(Case.MOST),
                () -> b.balance(Case.LEAST));
    }

    // ---- promise 24 ----

    @Sentence(promise = 24, text = "SLIPS (as soon as all three are TOLD of all STATIONS)")
    static void p24AsSoonAsAllIsTold(Case c) {
        BallotBook b = c.begin(Case.THREE);
        for (int s = 0; s < 3; s++) {
            for (int what = 0; what < 3; what++) {
                c.due("not yet", b.slips(0), -2);
                b.tell(s, what, what == 0 ? b.station(s, 4) : 0);
            }
        }
        dueSlips(c, 0, 0, 0, 0, 0, 0);
        b.undo();
        c.due("no more", b.slips(0), -2);
        b.recount(2);
        c.due("a recount tells all three", b.slips(0), 0);
    }

    @Sentence(promise = 24, text = "one TOLD number of a STATION that is not RECOUNTED is 1 more or less than it should be")
    static void p24Ones(Case c) {
        gaps(c, 1, 0);
        dueSlips(c, 1, 0, 0, 0, 0);
        gaps(c, 0, -1);
        dueSlips(c, 1, 0, 0, 0, 0);
        gaps(c, 5);
        dueSlips(c, 5, 0, 0, 0);
        gaps(c, -5);
        dueSlips(c, 5, 0, 0, 0);
        gaps(c, 2, 3);
        dueSlips(c, 5, 0, 0, 0, 0);
    }

    @Sentence(promise = 24, text = "it is 10 more or less (of one STATION three tens at most, all one way)")
    static void p24Tens(Case c) {
        gaps(c, 10);
        dueSlips(c, 1, 1, 0, 1);
        gaps(c, -10);
        dueSlips(c, 1, 1, 0, -1);
        gaps(c, 6);
        dueSlips(c, 5, 1, 0, 1);
        gaps(c, -6);
        dueSlips(c, 5, 1, 0, -1);
        gaps(c, 9);
        dueSlips(c, 2, 1, 0, 1);
        gaps(c, -15);
        dueSlips(c, 6, 1, 0, -1);
        gaps(c, -16);
        dueSlips(c, 6, 2, 0, -2);
    }

    @Sentence(promise = 24, text = "(of one STATION three tens at most, all one way)")
    static void p24ThreeTensAtMost(Case c) {
        gaps(c, -30);
        dueSlips(c, 3, 3, 0, -3);
        gaps(c, -31);
        dueSlips(c, 4, 3, 0, -3);
        gaps(c, -40);
        dueSlips(c, 13, 3, 0, -3);
        BallotBook b = c.begin("papers 60;station 0 39");
        c.tellAll(0, 0, 0, 0);
        dueSlips(c, 13, 3, 0, 3);
        b.tell(0, 0, 10);
        dueSlips(c, 3, 3, 0, 3);
    }

    @Sentence(promise = 24, text = "(of one STATION three tens at most, all one way)")
    static void p24FarOff(Case c) {
        BallotBook b = c.begin("papers 5;station 0 0;station 1 1;station 2 2;station 3 3;station 4 4");
        for (int s = 0; s < 5; s++) {
            c.tellAll(s, 60, 60, 60);
        }
        // 179 too many at each: three tens, and 149 ones
        dueSlips(c, 5 * 152, 15, 0, -3, -3, -3, -3, -3);
        c.due("all must", b.must(), 31);
        c.due("without one of them", b.leaves(2), 4 * 152);
    }

    @Sentence(promise = 24, text = "MOVED from one STATION to another one is 1 more or less")
    static void p24OfMoved(Case c) {
        gaps(c, 1, -1);
        dueSlips(c, 1, 0, 1, 0, 0);
        gaps(c, -3, 0, 3);
        dueSlips(c, 3, 0, 3, 0, 0, 0);
        gaps(c, 2, -1, -1);
        dueSlips(c, 2, 0, 2, 0, 0, 0);
        gaps(c, 3, -1);
        dueSlips(c, 3, 0, 1, 0, 0);
        gaps(c, 10, -10);
        dueSlips(c, 2, 2, 0, 1, -1);
    }

    @Sentence(promise = 24, text = "of all ways of so few those with fewest tens")
    static void p24FewestTens(Case c) {
        // six of moved, or a ten more, a ten less, and four of moved
        gaps(c, 6, -6);
        dueSlips(c, 6, 0, 6, 0, 0);
        gaps(c, 7, -7);
        dueSlips(c, 5, 2, 3, 1, -1);
        gaps(c, 5, -5);
        dueSlips(c, 5, 0, 5, 0, 0);
    }

    @Sentence(promise = 24, text = "of these the first (by how many tens more the TOLD numbers of STATION 0 should be, below 0 first, "
            + "then of the others)")
    static void p24OfTheseTheFirst(Case c) {
        // a ten at one of the two, and five of moved
        gaps(c, 5, 5);
        dueSlips(c, 6, 1, 5, 0, 1);
        gaps(c, -5, -5);
        dueSlips(c, 6, 1, 5, -1, 0);
        gaps(c, 0, 5, 5);
        dueSlips(c, 6, 1, 5, 0, 0, 1);
        gaps(c, 0, -5, -5);
        dueSlips(c, 6, 1, 5, 0, -1, 0);
        // 5 and 5 against 5 and 5: ten of moved, or two tens of unlike stations, and ten of moved: no tens
        gaps(c, 5, 5, -5, -5);
        dueSlips(c, 10, 0, 10, 0, 0, 0, 0);
        // two tens of three
        gaps(c, -5, -10, -5);
        dueSlips(c, 7, 2, 5, -1, -1, 0);
    }

    @Sentence(promise = 24, text = "(a TOLD number, or MOVED, can be below 0 so)")
    static void p24BelowNought(Case c) {
        // 5, 5 and 1 are told of one number: a ten less is below 0, whichever it is
        c.begin("papers 5;station 0 0");
        c.tellAll(0, 5, 5, 1);
        dueSlips(c, 1, 1, 0, -1);
        c.begin("papers 5;station 0 0;station 1 1");
        c.tellAll(0, 0, 0, 0);
        c.tellAll(1, 0, 0, 2);
        dueSlips(c, 1, 0, 1, 0, 0);
    }

    @Sentence(promise = 24, text = "one TOLD number of a STATION that is not RECOUNTED")
    static void p24RecountedOnesDoNotSlip(Case c) {
        // 0 was recounted with 10, and 2 of them went: two of moved, and two ones at 1
        BallotBook b = c.begin("papers 30;station 0 9;station 10 19");
        b.recount(0);
        b.lend(0, 1, 2);
        c.tellAll(1, 12, 0, 0);
        dueSlips(c, 4, 0, 2, 0, 0);
        c.due("1 must", b.must(), 2);
        c.due("0 is free", b.free(), 1);
    }

    @Sentence(promise = 24, text = "one TOLD number of a STATION that is not RECOUNTED")
    static void p24OfTwoRecountedOnesNeitherSlips(Case c) {
        // one went from 0 to 2 (or back) behind the recounts: one of moved, and then a one at 2
        BallotBook b = c.begin("papers 30;station 0 9;station 10 19;station 20 29");
        b.recount(0);
        b.recount(1);
        b.lend(0, 2, 1);
        c.tellAll(2, 11, 0, 0);
        dueSlips(c, 2, 0, 1, 0, 0, 0);
        b.lend(2, 0, 1);
        b.lend(2, 0, 1);
        b.tell(2, 0, 9);
        dueSlips(c, 2, 0, 1, 0, 0, 0);
        c.due("2 must", b.must(), 4);
    }

    @Sentence(promise = 24, text = "one TOLD number of a STATION that is not RECOUNTED is 1 more or less than it should be; it is 10 more "
            + "or less")
    static void p24TensAreNotOfARecountedOne(Case c) {
        // 10 went from 0 behind its recount: ten of moved, by which 1 has a ten too many
        BallotBook b = c.begin("papers 30;station 0 9;station 10 19");
        b.recount(0);
        b.lend(0, 1, 9);
        b.lend(0, 1, 1);
        c.tellAll(1, 20, 0, 0);
        dueSlips(c, 11, 1, 10, 0, -1);
        b.tell(1, 0, 10);
        dueSlips(c, 10, 0, 10, 0, 0);
    }

    @Sentence(promise = 24, text = "-2: not all is TOLD, or by no number of SLIPS.")
    static void p24ByNoNumber(Case c) {
        BallotBook b = c.begin("papers 30;station 0 9;station 10 19");
        b.recount(0);
        b.lend(0, 1, 2);
        b.recount(1);
        c.refused("2 are missing, and none can slip", -2, () -> b.slips(0), () -> b.slips(1), () -> b.slips(2),
                () -> b.slips(3), () -> b.slips(4), b::must, b::free);
        b.lend(1, 0, 2);
        c.due("still 2", b.slips(0), -2);
    }

    @Sentence(promise = 24, text = "by no number of SLIPS")
    static void p24AllRecountedByMovedAlone(Case c) {
        BallotBook b = c.begin("papers 30;station 0 9;station 10 19");
        b.recount(0);
        b.recount(1);
        dueSlips(c, 0, 0, 0, 0, 0);
        b.lend(0, 1, 3);
        dueSlips(c, 3, 0, 3, 0, 0);
        c.due("none must", b.must(), 0);
        c.due("both are free", b.free(), 3);
    }

    @Sentence(promise = 24, text = "-3 (asked first) for others (a STATION that is not), or without STATIONS")
    static void p24AskedFirst(Case c) {
        BallotBook b = c.begin(Case.THREE);
        c.refused("no such what, nothing told", -3, () -> b.slips(-1), () -> b.slips(6), () -> b.slips(8),
                () -> b.slips(Case.MOST), () -> b.slips(Case.LEAST));
        c.refused("not all is told", -2, () -> b.slips(0), () -> b.slips(5));
        for (int s = 0; s < 3; s++) {
            b.recount(s);
        }
        c.due("the last station", b.slips(5), 100);
        c.due("no station", b.slips(6), -3);
        c.due("below", b.slips(-1), -3);
    }

    @Sentence(promise = 24, text = "or without STATIONS")
    static void p24WithoutStations(Case c) {
        c.due("new", c.book.slips(0), -3);
        c.begin("papers 9");
        c.due("no stations", c.book.slips(0), -3);
        c.due("no stations", c.book.slips(3), -3);
    }

    // ---- promise 25 ----

    @Sentence(promise = 25, text = "MUST: STATIONS (not RECOUNTED) that have a SLIP of their own TOLD numbers in each of all ways of so few "
            + "SLIPS, as bits.")
    static void p25InEachWay(Case c) {
        c.due("all is right", gaps(c, 0, 0, 0).must(), 0);
        c.due("one at 1", gaps(c, 0, 1, 0).must(), 2);
        c.due("a ten at 2", gaps(c, 0, 0, -10).must(), 4);
        c.due("two of them", gaps(c, 1, 0, 1).must(), 5);
        c.due("by moved", gaps(c, 1, -1, 0).must(), 0);
        c.due("one by moved, one of its own", gaps(c, 2, -1, 0).must(), 1);
        c.due("either 1 or 2", gaps(c, -1, 1, 1).must(), 0);
        c.due("one of two tens", gaps(c, 5, 5).must(), 0);
        c.due("five", gaps(c, 1, 1, 1, 1, 1).must(), 31);
    }

    @Sentence(promise = 25, text = "STATIONS (not RECOUNTED)")
    static void p25NotRecounted(Case c) {
        BallotBook b = gaps(c, 1, 1, 0);
        c.due("0 and 1", b.must(), 3);
        b.recount(0);
        c.due("1 alone", b.must(), 2);
        b.recount(1);
        c.due("none", b.must(), 0);
    }

    @Sentence(promise = 25, text = "-3 (asked first) without STATIONS; -2: not all is TOLD, or by no number of SLIPS.")
    static void p25NotTold(Case c) {
        c.due("new", c.book.must(), -3);
        c.begin("papers 9");
        c.due("no stations", c.book.must(), -3);
        BallotBook b = c.begin(Case.THREE);
        c.due("nothing told", b.must(), -2);
        c.tellAll(0, 1, 1, 1);
        c.tellAll(1, 1, 1, 1);
        b.tell(2, 0, 1);
        b.tell(2, 2, 1);
        c.refused("one is missing", -2, b::must);
        b.tell(2, 1, 1);
        // 7 and 2 missing of stations 0 and 1: a ten at 0, whose 3 too many go by 2 of moved, and a one
        c.due("all is told", b.must(), 1);
    }

    // ---- promise 26 ----

    @Sentence(promise = 26, text = "FREE: those that have none in one of these, RECOUNTED ones, too, as bits.")
    static void p26NoneInOneOfThese(Case c) {
        c.due("all is right", gaps(c, 0, 0, 0).free(), 7);
        c.due("one at 1", gaps(c, 0, 1, 0).free(), 5);
        c.due("a ten at 2", gaps(c, 0, 0, -10).free(), 3);
        c.due("by moved", gaps(c, 1, -1, 0).free(), 7);
        c.due("all must", gaps(c, 1, 1, 1, 1, 1).free(), 0);
        c.due("either 1 or 2: in one way 1 has none, in another one 2", gaps(c, -1, 1, 1).free(), 7);
    }

    @Sentence(promise = 26, text = "RECOUNTED ones, too, as bits")
    static void p26RecountedOnes(Case c) {
        BallotBook b = gaps(c, 1, 1, 0);
        c.due("2", b.free(), 4);
        b.recount(0);
        c.due("0, too", b.free(), 5);
        b.recount(1);
        c.due("all", b.free(), 7);
        b.recount(2);
        c.due("all are recounted", b.free(), 7);
    }

    @Sentence(promise = 26, text = "-3 (asked first) without STATIONS; -2: not all is TOLD, or by no number of SLIPS.")
    static void p26NotTold(Case c) {
        c.due("new", c.book.free(), -3);
        c.begin("papers 9");
        c.due("no stations", c.book.free(), -3);
        BallotBook b = c.begin(Case.THREE);
        b.recount(0);
        b.recount(1);
        c.refused("one is missing", -2, b::free);
        b.recount(2);
        c.due("all is told", b.free(), 7);
    }

    // ---- promise 27 ----

    @Sentence(promise = 27, text = "LEAVES of a STATION that is not RECOUNTED: how many SLIPS would be left, if it was RECOUNTED now.")
    static void p27WouldBeLeft(Case c) {
        BallotBook b = gaps(c, 3, -2, 1);
        c.due("slips", b.slips(0), 4);
        c.due("0", b.leaves(0), 2);
        c.due("1", b.leaves(1), 4);
        c.due("2", b.leaves(2), 3);
        b.recount(0);
        c.due("as it was said", b.slips(0), 2);
        c.due("now of 1", b.leaves(1), 1);
        c.due("nothing changes", b.told(1, 0), 12);
    }

    @Sentence(promise = 27, text = "if it was RECOUNTED now")
    static void p27TheStationItselfNeedNotBeTold(Case c) {
        BallotBook b = c.begin(Case.THREE);
        c.tellAll(1, 3, 0, 1);
        c.tellAll(2, 3, 0, 0);
        c.due("0 has told nothing", b.leaves(0), 1);
        c.begin("papers 9;station 0 8");
        c.due("one station alone", c.book.leaves(0), 0);
        c.tellAll(0, 60, 60, 60);
        c.due("whatever it told", c.book.leaves(0), 0);
    }

    @Sentence(promise = 27, text = "if it was RECOUNTED now")
    static void p27OneStationCantCloseByItself(Case c) {
        // 1 tells 2 too few; were it recounted, nothing is left; were 0, these 2 are
        BallotBook b = gaps(c, 0, 2);
        c.due("0", b.leaves(0), 2);
        c.due("1", b.leaves(1), 0);
        // 10 too few here, 10 too many there: two tens; a recount of either leaves one
        gaps(c, 10, -10);
        c.due("0", c.book.leaves(0), 1);
        c.due("1", c.book.leaves(1), 1);
    }

    @Sentence(promise = 27, text = "-2: not all is TOLD of all others, or by no number of SLIPS")
    static void p27NotAllOfTheOthers(Case c) {
        BallotBook b = c.begin(Case.THREE);
        c.tellAll(1, 3, 0, 1);
        b.tell(2, 0, 3);
        b.tell(2, 1, 0);
        c.refused("2 did not tell all", -2, () -> b.leaves(0), () -> b.leaves(1));
        c.refused("0 did not", -2, () -> b.leaves(2));
        b.tell(2, 2, 0);
        c.due("now", b.leaves(0), 1);
    }

    @Sentence(promise = 27, text = "or by no number of SLIPS")
    static void p27ByNoNumber(Case c) {
        BallotBook b = c.begin("papers 30;station 0 9;station 10 19");
        b.recount(0);
        b.lend(0, 1, 2);
        c.refused("were 1 recounted, 2 are missing", -2, () -> b.leaves(1));
        b.undo();
        c.due("none is missing", b.leaves(1), 0);
    }

    @Sentence(promise = 27, text = "NONE without these.")
    static void p27WithoutThese(Case c) {
        BallotBook b = gaps(c, 1, 2);
        b.recount(1);
        c.refused("recounted", NONE, () -> b.leaves(1));
        c.refused("no station", NONE, () -> b.leaves(2), () -> b.leaves(-1), () -> b.leaves(Case.MOST),
                () -> b.leaves(Case.LEAST));
        c.begin(Case.THREE);
        c.due("no station, asked ahead of what is told", c.book.leaves(3), NONE);
    }
}
