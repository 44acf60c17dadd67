/** Promises 28 to 34: how it goes on, gifts, crowds, rests, pence. */
final class AheadSentences {
    private static final int NONE = Case.NONE;

    private AheadSentences() {
    }

    // ---- promise 28 ----

    @Sentence(promise = 28, text = "AHEAD n HOURS (0 to 100): the number of STOCK, of BOX, of SPOILED ones of a STATION; how many WAIT there.")
    static void p28Ahead(Case c) {
        BallotBook b = c.begin(Case.THREE);
        // hours 0 to 3 serve at 0 (3 is spoiled), 4 and 5 at 1 (10 is spoiled)
        int[][] want = {{10, 0, 0, 4}, {7, 3, 0, 1}, {5, 4, 1, 0}, {5, 4, 1, 0}};
        int[] hours = {0, 3, 4, 100};
        for (int i = 0; i < hours.length; i++) {
            for (int what = 0; what < 4; what++) {
                c.due(hours[i] + " ahead, " + what, b.ahead(0, hours[i], what), want[i][what]);
            }
        }
        c.due("of 1", b.ahead(1, 5, 2), 2);
        c.due("of 2", b.ahead(2, 100, 0), 3);
    }

    @Sentence(promise = 28, text = "AHEAD n HOURS (0 to 100)")
    static void p28NoughtToHundred(Case c) {
        BallotBook b = c.begin("papers 3;station 0 1;voters 0 1");
        c.enforce("serve 1 if hour >= 99");
        c.due("0", b.ahead(0, 0, 1), 0);
        c.due("99", b.ahead(0, 99, 1), 0);
        c.due("100", b.ahead(0, 100, 1), 1);
        c.refused("beyond", NONE, () -> b.ahead(0, 101, 1), () -> b.ahead(0, -1, 1), () -> b.ahead(0, Case.MOST, 1),
                () -> b.ahead(0, Case.LEAST, 1));
    }

    @Sentence(promise = 28, text = "NONE without these.")
    static void p28WithoutThese(Case c) {
        BallotBook b = c.begin(Case.THREE);
        c.refused("no station", NONE, () -> b.ahead(3, 1, 0), () -> b.ahead(-1, 1, 0), () -> b.ahead(Case.MOST, 0, 0),
                () -> b.ahead(Case.LEAST, 0, 0));
        c.refused("no such what", NONE, () -> b.ahead(0, 1, 4), () -> b.ahead(0, 1, -1), () -> b.ahead(0, 1, 5),
                () -> b.ahead(0, 0, Case.MOST), () -> b.ahead(0, 0, Case.LEAST));
    }

    @Sentence(promise = 28, text = "(HOURS go on by the RULE IN FORCE in what follows.)")
    static void p28ByTheRuleInForce(Case c) {
        BallotBook b = c.begin(Case.THREE);
        c.enforce("serve station");
        c.due("1 serves", b.ahead(1, 2, 1), 2);
        c.due("then none", b.ahead(0, 100, 1), 0);
        b.force(NONE);
        c.due("without a rule 0", b.ahead(0, 2, 1), 2);
        c.hours(2);
        c.due("from now on", b.ahead(0, 0, 1), 2);
        c.due("two more", b.ahead(0, 2, 1), 4);
    }

    @Sentence(promise = 28, text = "(By what is asked nothing changes.)")
    static void p28NothingChanges(Case c) {
        BallotBook b = c.begin(Case.THREE);
        c.rule("serve waiting");
        c.hours(2);
        b.note(5, 0, 2);
        c.tellAll(0, 4, 4, 1);
        String before = c.state();
        b.ahead(0, 100, 0);
        b.dry(0);
        b.served();
        b.more(0, 60, 0);
        b.crowds(0, 0);
        b.rests(0, 1, 20, 0);
        b.pence(100, 0);
        b.ruled(0);
        b.look(60, 0);
        b.crowded(10, 60, 100, 0);
        b.slips(0);
        b.must();
        b.free();
        b.leaves(0);
        c.same("behind all questions", before);
    }

    // ---- promise 29 ----

    @Sentence(promise = 29, text = "DRY of a STATION: the number of the first HOUR, this one (whose number is HOUR now) the first, of 200, "
            + "behind which any WAIT there, but its STOCK is empty.")
    static void p29TheFirstHour(Case c) {
        BallotBook b = c.begin("papers 20;station 0 2;station 3 3;station 4 9;voters 0 5;voters 1 1;voters 2 2");
        c.due("behind hour 2", b.dry(0), 2);
        c.due("its last one is spoiled in hour 3", b.dry(1), 3);
        c.due("it has enough", b.dry(2), -2);
        c.hours(2);
        c.due("still hour 2", b.dry(0), 2);
        c.hours(1);
        c.due("dry already: this one", b.dry(0), 3);
        c.hours(4);
        c.due("and this one", b.dry(0), 7);
    }

    @Sentence(promise = 29, text = "behind which any WAIT there, but its STOCK is empty")
    static void p29BothAreAsked(Case c) {
        BallotBook b = c.begin("papers 9;station 0 1;station 2 2;voters 0 2;spoiled 2");
        c.due("the last voter takes the last paper", b.dry(0), -2);
        c.due("an empty stock, nobody waits", b.dry(1), -2);
        b.send(0, 1, 1);
        c.due("one waits at the empty one", b.dry(1), 0);
        c.due("and one is served", b.dry(0), -2);
    }

    @Sentence(promise = 29, text = "this one (whose number is HOUR now) the first, of 200")
    static void p29OfTwoHundred(Case c) {
        BallotBook b = c.begin("papers 2;station 0 0;voters 0 2");
        c.enforce("serve 1 if hour >= 199");
        c.due("the 200th", b.dry(0), 199);
        c.enforce("serve 1 if hour >= 200");
        c.due("the 201st", b.dry(0), -2);
        c.hours(1);
        c.due("is the 200th from now on", b.dry(0), 200);
    }

    @Sentence(promise = 29, text = "-2: behind none of these; NONE without that STATION.")
    static void p29NoStation(Case c) {
        BallotBook b = c.begin(Case.THREE);
        c.refused("no station", NONE, () -> b.dry(3), () -> b.dry(-1), () -> b.dry(Case.MOST), () -> b.dry(Case.LEAST));
        c.refused("behind none", -2, () -> b.dry(0), () -> b.dry(1), () -> b.dry(2));
    }

    // ---- promise 30 ----

    @Sentence(promise = 30, text = "SERVED: the number of the first HOUR, this one the first, of 200, behind which nobody WAITS.")
    static void p30TheFirstHour(Case c) {
        BallotBook b = c.begin(Case.THREE);
        c.due("behind hour 5", b.served(), 5);
        c.hours(5);
        c.due("behind this one", b.served(), 5);
        c.hours(1);
        c.due("nobody waits: this one", b.served(), 6);
        c.hours(3);
        c.due("and this one", b.served(), 9);
    }

    @Sentence(promise = 30, text = "this one the first, of 200, behind which nobody WAITS")
    static void p30OfTwoHundred(Case c) {
        BallotBook b = c.begin("papers 2;station 0 0;voters 0 1");
        c.enforce("serve 1 if hour >= 199");
        c.due("the 200th", b.served(), 199);
        c.enforce("serve 1 if hour >= 200");
        c.due("the 201st", b.served(), -2);
        c.hours(1);
        c.due("is the 200th from now on", b.served(), 200);
    }

    @Sentence(promise = 30, text = "-2: behind none of these; NONE without an ELECTION.")
    static void p30NeverOrNoElection(Case c) {
        c.due("no election", c.book.served(), NONE);
        c.begin("papers 1");
        c.due("no stations: nobody waits", c.book.served(), 0);
        c.begin("papers 4;station 3 3;voters 0 1");
        c.due("3 is spoiled, the voter waits on", c.book.served(), -2);
        c.begin(Case.THREE);
        c.enforce("serve 0");
        c.due("none serves", c.book.served(), -2);
    }

    // ---- promise 31 ----

    @Sentence(promise = 31, text = "the STATION that had best have 5 of the greatest numbers of the STOCK of a STATION")
    static void p31FiveOfTheGreatest(Case c) {
        // 0 gets 15 to 19 and puts 0 15 16 18 19 into its box, as 17 is spoiled
        BallotBook b = c.begin("papers 30;station 0 0;station 10 19;voters 0 9");
        c.due("which", b.more(1, 60, 0), 0);
        c.due("how many", b.more(1, 60, 1), 4);
        c.due("nothing is moved", b.moved(1, 0), 0);
        c.due("nothing changes", b.station(1, 0), 10);
    }

    @Sentence(promise = 31, text = "5 of the greatest numbers of the STOCK of a STATION")
    static void p31NotTheLeast(Case c) {
        // of 16 to 20 one is spoiled, 17; of 11 to 15 none would be
        BallotBook b = c.begin("papers 30;station 0 0;station 11 20;voters 0 9");
        c.due("which", b.more(1, 60, 0), 0);
        c.due("how many", b.more(1, 60, 1), 4);
    }

    @Sentence(promise = 31, text = "the STATION that had best have 5 of the greatest numbers")
    static void p31OfFiveStations(Case c) {
        BallotBook b = c.begin("papers 60;station 0 0;station 1 1;station 2 2;station 10 19;station 3 3;voters 4 5");
        // 4 has 3 15 16 17 18 19 then, of which 3 and 17 are spoiled
        c.due("the last one", b.more(3, 60, 0), 4);
        c.due("how many", b.more(3, 60, 1), 1);
        c.due("its own", b.more(4, 60, 0), NONE);
    }

    @Sentence(promise = 31, text = "(all, if it has not so many; not counted as MOVED)")
    static void p31AllItHas(Case c) {
        BallotBook b = c.begin("papers 30;station 0 1;station 5 5;voters 1 4");
        c.due("which", b.more(0, 60, 0), 1);
        c.due("0 1 5 are given out", b.more(0, 60, 1), 1);
        c.begin("papers 9;station 0 0;station 1 1;voters 1 4;spoiled 0");
        c.due("an empty stock", c.book.more(0, 60, 0), NONE);
        c.due("how many", c.book.more(0, 60, 1), 3);
    }

    @Sentence(promise = 31, text = "another one than that, or none, so that fewest WAIT at all then")
    static void p31AnotherOneOrNone(Case c) {
        BallotBook b = c.begin("papers 9;station 0 8;voters 0 20");
        c.due("there is no other one", b.more(0, 60, 0), NONE);
        c.due("0 1 2 4 to 8 are given out", b.more(0, 60, 1), 12);
        // what 0 has it needs itself: 4 to 8 at 1 would serve five in place of five
        c.begin("papers 30;station 4 8;station 9 9;voters 0 5;voters 1 5");
        c.due("as good as none", c.book.more(0, 60, 0), NONE);
        c.due("how many", c.book.more(0, 60, 1), 4);
    }

    @Sentence(promise = 31, text = "of several none, then the least: which; how many")
    static void p31OfSeveralTheLeast(Case c) {
        BallotBook b = c.begin("papers 30;station 5 5;station 0 4;station 7 7;voters 0 4;voters 2 4");
        c.due("0 and 2 are as good", b.more(1, 60, 0), 0);
        c.due("how many", b.more(1, 60, 1), 3);
        c.due("in one hour it is all the same", b.more(1, 1, 0), NONE);
        c.due("how many", b.more(1, 1, 1), 7);
    }

    @Sentence(promise = 31, text = "MORE for n HOURS (1 to 60)")
    static void p31OneToSixty(Case c) {
        BallotBook b = c.begin("papers 9;station 0 1;station 5 5;voters 1 2;spoiled 5");
        c.due("one hour", b.more(0, 1, 0), 1);
        c.enforce("serve 1 if hour >= 59");
        c.due("59 hours", b.more(0, 59, 0), NONE);
        c.due("all wait", b.more(0, 59, 1), 2);
        c.due("60 hours", b.more(0, 60, 0), 1);
        c.due("one is served", b.more(0, 60, 1), 1);
        c.refused("beyond", -2, () -> b.more(0, 0, 0), () -> b.more(0, 61, 0), () -> b.more(0, -1, 0),
                () -> b.more(0, Case.MOST, 0), () -> b.more(0, Case.LEAST, 0));
    }

    @Sentence(promise = 31, text = "-2 without these.")
    static void p31WithoutThese(Case c) {
        BallotBook b = c.begin(Case.THREE);
        c.refused("no station", -2, () -> b.more(3, 1, 0), () -> b.more(-1, 1, 0), () -> b.more(Case.MOST, 1, 1),
                () -> b.more(Case.LEAST, 1, 1));
        c.refused("no such what", -2, () -> b.more(0, 1, 2), () -> b.more(0, 1, -1), () -> b.more(0, 1, Case.MOST),
                () -> b.more(0, 1, Case.LEAST));
    }

    // ---- promise 32 ----

    @Sentence(promise = 32, text = "CROWDS of a STATION: numbers 0 to 60 of who WAIT there, in place of what the text told")
    static void p32NoughtToSixty(Case c) {
        BallotBook b = c.begin("papers 60;station 0 59;voters 0 7");
        c.due("no notes: all of them", b.crowds(0, 0), 61);
        c.due("0 is one", b.crowds(0, 1), 0);
        // behind hour 50 at most 51 are in the box
        b.note(50, 0, 51);
        c.due("51 to 60", b.crowds(0, 0), 10);
        c.due("51", b.crowds(0, 1), 51);
        b.note(NONE, 0, 0);
        b.note(60, 0, 0);
        c.due("0 alone", b.crowds(0, 0), 1);
        c.due("0", b.crowds(0, 1), 0);
    }

    @Sentence(promise = 32, text = "so that from the begin on, by the RULE IN FORCE, all else as the text told it, all NOTES are so")
    static void p32FromTheBeginOn(Case c) {
        BallotBook b = c.begin("papers 40;station 0 19;station 20 39;voters 0 4;voters 1 3");
        // 0 serves first: seven hours leave two for 1 if five wait at 0
        b.note(6, 1, 2);
        c.due("how many", b.crowds(0, 0), 1);
        c.due("five", b.crowds(0, 1), 5);
        c.hours(3);
        b.lend(0, 1, 9);
        b.send(1, 0, 3);
        c.due("as the text told it", b.crowds(0, 1), 5);
        c.enforce("serve station");
        c.due("by the rule 1 serves its three", b.crowds(0, 0), 0);
        b.force(NONE);
        b.note(1, 0, 2);
        c.due("both notes", b.crowds(0, 0), 1);
        b.note(1, 0, 1);
        c.due("all three", b.crowds(0, 0), 0);
    }

    @Sentence(promise = 32, text = "CROWDS what 0: how many, 1: the least (-2: there is none).")
    static void p32ThereIsNone(Case c) {
        BallotBook b = c.begin(Case.THREE);
        b.note(0, 0, 2);
        c.due("how many", b.crowds(0, 0), 0);
        c.due("the least", b.crowds(0, 1), -2);
        c.due("of another one", b.crowds(2, 1), -2);
    }

    @Sentence(promise = 32, text = "NONE without these.")
    static void p32WithoutThese(Case c) {
        BallotBook b = c.begin(Case.THREE);
        c.refused("no station", NONE, () -> b.crowds(3, 0), () -> b.crowds(-1, 0), () -> b.crowds(Case.MOST, 0),
                () -> b.crowds(Case.LEAST, 0));
        c.refused("no such what", NONE, () -> b.crowds(0, 2), () -> b.crowds(0, -1), () -> b.crowds(0, Case.MOST),
                () -> b.crowds(0, Case.LEAST));
    }

    // ---- promise 33 ----

    @Sentence(promise = 33, text = "RESTS of two STATIONS for n HOURS (1 to 20)")
    static void p33OneToTwenty(Case c) {
        BallotBook b = c.begin("papers 9;station 0 2;station 4 6;voters 0 1");
        c.enforce("serve 1 if hour >= 19");
        // 19 hours: nobody is served, so 0 sends its one voter, by 1, 2 or 3
        c.due("19: how many", b.rests(0, 1, 19, 0), 12);
        c.due("19: the first", b.rests(0, 1, 19, 1) * 10 + b.rests(0, 1, 19, 2), 10);
        // 20 hours: who keeps the voter serves him
        c.due("20: how many", b.rests(0, 1, 20, 0), 4);
        c.due("20: the first", b.rests(0, 1, 20, 1) * 10 + b.rests(0, 1, 20, 2), 0);
        c.due("1", b.rests(0, 1, 1, 0), 12);
        c.refused("beyond", NONE, () -> b.rests(0, 1, 0, 0), () -> b.rests(0, 1, 21, 0), () -> b.rests(0, 1, -1, 0),
                () -> b.rests(0, 1, Case.MOST, 0), () -> b.rests(0, 1, Case.LEAST, 0));
    }

    @Sentence(promise = 33, text = "each first SENDS 0 to 3 of those who WAIT there now (all, if there are not so many) to the other one, both "
            + "at once")
    static void p33BothAtOnce(Case c) {
        // nobody is served: each sends all it can of those who wait now, 0 its one, 1 its two
        BallotBook b = c.begin("papers 9;station 0 2;station 4 6;voters 0 1;voters 1 2");
        c.enforce("serve 0");
        c.due("1 to 3 and 2 to 3", b.rests(0, 1, 5, 0), 6);
        c.due("first", b.rests(0, 1, 5, 1), 1);
        c.due("second", b.rests(0, 1, 5, 2), 2);
        c.due("the other way round", b.rests(1, 0, 5, 0), 6);
        c.due("first", b.rests(1, 0, 5, 1), 2);
        c.due("second", b.rests(1, 0, 5, 2), 1);
        c.due("nobody is sent", b.station(0, 3), 1);
    }

    @Sentence(promise = 33, text = "each first SENDS 0 to 3 of those who WAIT there now")
    static void p33ThreeAtMost(Case c) {
        BallotBook b = c.begin("papers 9;station 0 2;station 4 6;voters 0 9;voters 1 9");
        c.enforce("serve 0");
        c.due("three each", b.rests(0, 1, 1, 0), 1);
        c.due("first", b.rests(0, 1, 1, 1), 3);
        c.due("second", b.rests(0, 1, 1, 2), 3);
    }

    @Sentence(promise = 33, text = "each has how many more are in its BOX then than now, twice, less how many WAIT there then")
    static void p33WhatEachHas(Case c) {
        // 0 has one number: who stays beyond one costs 1, the one who is served is worth 2
        BallotBook b = c.begin("papers 9;station 0 0;station 1 8;voters 0 3");
        c.due("two are sent, whatever 1 says", b.rests(0, 1, 20, 0), 4);
        c.due("first", b.rests(0, 1, 20, 1), 2);
        c.due("second", b.rests(0, 1, 20, 2), 0);
    }

    @Sentence(promise = 33, text = "how many more are in its BOX then than now, twice, less how many WAIT there then")
    static void p33Twice(Case c) {
        // 0 serves one and has two waiting, which is 0, or sends all three, which is 0, too; 1 or 2 sent are less
        BallotBook b = c.begin("papers 9;station 0 2;station 4 6;voters 0 3");
        c.enforce("serve 1 if station = 0 and waiting >= 3");
        c.due("0 or 3, and whatever 1 says", b.rests(0, 1, 1, 0), 8);
        c.due("first", b.rests(0, 1, 1, 1), 0);
        c.due("the other way round", b.rests(1, 0, 1, 0), 8);
        c.due("second", b.rests(1, 0, 1, 2), 0);
    }

    @Sentence(promise = 33, text = "twos of which neither would have more by another number: how many; the first (by the first one, then the "
            + "second one)")
    static void p33AllAreRests(Case c) {
        BallotBook b = c.begin("papers 9;station 0 3;station 4 8");
        c.due("nobody waits: sixteen", b.rests(0, 1, 5, 0), 16);
        c.due("first", b.rests(0, 1, 5, 1), 0);
        c.due("second", b.rests(0, 1, 5, 2), 0);
    }

    @Sentence(promise = 33, text = "1, 2: the first (-2: there is none)")
    static void p33NoRest(Case c) {
        // one hour, and who has more serves: 0 would send as many as come, 1 some others
        BallotBook b = c.begin("papers 30;station 0 0;station 7 8;voters 0 2;voters 1 2");
        c.enforce("serve waiting");
        c.due("how many", b.rests(0, 1, 1, 0), 0);
        c.due("first", b.rests(0, 1, 1, 1), -2);
        c.due("second", b.rests(0, 1, 1, 2), -2);
    }

    @Sentence(promise = 33, text = "NONE without these (unlike).")
    static void p33WithoutThese(Case c) {
        BallotBook b = c.begin(Case.THREE);
        c.refused("alike", NONE, () -> b.rests(0, 0, 1, 0), () -> b.rests(2, 2, 1, 0));
        c.refused("no station", NONE, () -> b.rests(0, 3, 1, 0), () -> b.rests(3, 0, 1, 0), () -> b.rests(-1, 0, 1, 0),
                () -> b.rests(0, -1, 1, 0), () -> b.rests(Case.MOST, 0, 1, 0), () -> b.rests(0, Case.LEAST, 1, 0));
        c.refused("no such what", NONE, () -> b.rests(0, 1, 1, 3), () -> b.rests(0, 1, 1, -1),
                () -> b.rests(0, 1, 1, Case.MOST), () -> b.rests(0, 1, 1, Case.LEAST));
    }

    // ---- promise 34 ----

    /** Boxes of so many papers. */
    private static BallotBook boxes(Case c, int... many) {
        StringBuilder text = new StringBuilder("papers 60");
        for (int s = 0; s < many.length; s++) {
            text.append(";station ").append(12 * s).append(' ').append(12 * s + 11);
        }
        c.begin(text.toString());
        for (int s = 0; s < many.length; s++) {
            for (int i = 0; i < many[s]; i++) {
                c.book.spoil(12 * s + i);
                c.book.find(12 * s + i);
            }
        }
        return c.book;
    }

    private static void duePence(Case c, int much, int... parts) {
        for (int s = 0; s < parts.length; s++) {
            c.due(much + " pence, station " + s, c.book.pence(much, s), parts[s]);
        }
    }

    @Sentence(promise = 34, text = "PENCE (0 to 9999) among STATIONS by their BOXES: each the part downwards; what is left, one each, to those "
            + "whose part lost most by that")
    static void p34WhoseLostMost(Case c) {
        boxes(c, 3, 2, 1);
        // 50, 33 and a third, 16 and two thirds
        duePence(c, 100, 50, 33, 17);
        duePence(c, 6, 3, 2, 1);
        // 2 and a half, 1 and two thirds, five sixths
        duePence(c, 5, 2, 2, 1);
        boxes(c, 7, 1, 1, 1);
        // 3.5, 0.5, 0.5, 0.5: two are left, to 0 and 1
        duePence(c, 5, 4, 1, 0, 0);
    }

    @Sentence(promise = 34, text = "of several the least first (nothing, if all are empty)")
    static void p34OfSeveralTheLeastFirst(Case c) {
        boxes(c, 1, 1, 1);
        duePence(c, 1, 1, 0, 0);
        duePence(c, 2, 1, 1, 0);
        duePence(c, 3, 1, 1, 1);
        duePence(c, 100, 34, 33, 33);
        boxes(c, 0, 4, 0, 4);
        duePence(c, 5, 0, 3, 0, 2);
    }

    @Sentence(promise = 34, text = "(nothing, if all are empty)")
    static void p34AllAreEmpty(Case c) {
        boxes(c, 0, 0, 0);
        duePence(c, 0, 0, 0, 0);
        duePence(c, 1, 0, 0, 0);
        duePence(c, 9999, 0, 0, 0);
    }

    @Sentence(promise = 34, text = "PENCE (0 to 9999)")
    static void p34NoughtTo9999(Case c) {
        BallotBook b = boxes(c, 2, 1);
        duePence(c, 0, 0, 0);
        duePence(c, 9999, 6666, 3333);
        c.refused("beyond", NONE, () -> b.pence(10000, 0), () -> b.pence(-1, 0), () -> b.pence(Case.MOST, 0),
                () -> b.pence(Case.LEAST, 0));
        boxes(c, 12, 12, 12, 12, 12);
        duePence(c, 9999, 2000, 2000, 2000, 2000, 1999);
        c.begin("papers 60;station 0 59");
        for (int p = 0; p < 60; p++) {
            c.book.spoil(p);
            c.book.find(p);
        }
        duePence(c, 9999, 9999);
    }

    @Sentence(promise = 34, text = "PENCE of a STATION; NONE without these.")
    static void p34WithoutThese(Case c) {
        BallotBook b = boxes(c, 2, 1);
        c.refused("no station", NONE, () -> b.pence(1, 2), () -> b.pence(1, -1), () -> b.pence(1, Case.MOST),
                () -> b.pence(1, Case.LEAST));
        boxes(c, 0, 0);
        c.due("all are empty, no station", c.book.pence(1, 2), NONE);
        c.due("all are empty, too much", c.book.pence(10000, 0), NONE);
    }
}
