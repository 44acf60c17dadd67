/** Promises 35 to 42: notes and rules by them, draws, counts, images. */
final class NoteSentences {
    private static final int NONE = Case.NONE;

    private NoteSentences() {
    }

    // ---- promise 35 ----

    @Sentence(promise = 35, text = "A NOTE (n NONE: there are none then, 0): how many")
    static void p35NoneThen(Case c) {
        BallotBook b = c.begin(Case.THREE);
        c.due("one", b.note(3, 0, 4), 1);
        c.due("two", b.note(3, 0, 4), 2);
        c.due("none then", b.note(NONE, 0, 0), 0);
        c.due("notes", b.count(10), 0);
        c.due("none of none", b.note(NONE, 0, 0), 0);
        b.note(0, 0, 0);
        c.due("the rest is not asked for", b.note(NONE, 7, Case.MOST), 0);
        c.due("one again", b.note(0, 0, 0), 1);
    }

    @Sentence(promise = 35, text = "A NOTE (n NONE: there are none then, 0)")
    static void p35NoneWithoutStations(Case c) {
        c.due("new", c.book.note(NONE, 0, 0), 0);
        c.begin("papers 3");
        c.due("no stations", c.book.note(NONE, 0, 0), 0);
        c.due("a note of no station", c.book.note(0, 0, 0), -2);
    }

    @Sentence(promise = 35, text = "NOTES 0 to 9, told: behind the HOUR whose number is n (0 to 60; so n and 1 HOURS are gone) so many (0 to 60) "
            + "were in the BOX of a STATION.")
    static void p35Bounds(Case c) {
        BallotBook b = c.begin(Case.THREE);
        c.due("hour 0, 0 papers", b.note(0, 0, 0), 1);
        c.due("hour 60, 60 papers", b.note(60, 2, 60), 2);
        c.refused("hour", -2, () -> b.note(61, 0, 0), () -> b.note(-2, 0, 0), () -> b.note(Case.MOST, 0, 0),
                () -> b.note(Case.LEAST, 0, 0));
        c.refused("papers", -2, () -> b.note(0, 0, 61), () -> b.note(0, 0, -1), () -> b.note(0, 0, Case.MOST),
                () -> b.note(0, 0, Case.LEAST));
        c.refused("station", -2, () -> b.note(0, 3, 0), () -> b.note(0, -1, 0), () -> b.note(0, Case.MOST, 0),
                () -> b.note(0, Case.LEAST, 0));
    }

    @Sentence(promise = 35, text = "-2, and nothing happens, without these, or if there are 10.")
    static void p35ThereAreTen(Case c) {
        BallotBook b = c.begin(Case.THREE);
        for (int i = 1; i <= 10; i++) {
            c.due("note " + i, b.note(i - 1, 0, Math.min(i, 4)), i);
        }
        c.due("all are so", b.ruled(0), 1);
        c.refused("an eleventh", -2, () -> b.note(0, 0, 0), () -> b.note(0, 0, 1));
        c.due("it is not one", b.ruled(0), 1);
        c.due("none then", b.note(NONE, 0, 0), 0);
        c.due("one", b.note(0, 0, 1), 1);
    }

    @Sentence(promise = 35, text = "NOTES 0 to 9, told: behind the HOUR whose number is n (0 to 60; so n and 1 HOURS are gone)")
    static void p35BehindTheHour(Case c) {
        BallotBook b = c.begin("papers 3;station 0 1;voters 0 1");
        c.enforce("serve 1 if hour >= 60");
        b.note(59, 0, 0);
        b.note(60, 0, 1);
        c.due("the rule is so, not none", b.ruled(0), 1);
        c.due("the first", b.ruled(1), 0);
        b.note(60, 0, 0);
        c.due("no more", b.ruled(0), 0);
    }

    @Sentence(promise = 35, text = "A NOTE (n NONE: there are none then, 0): how many")
    static void p35NoAct(Case c) {
        BallotBook b = c.begin(Case.THREE);
        b.hour();
        b.note(0, 0, 1);
        c.due("acts", b.count(11), 1);
        b.undo();
        c.due("notes stay", b.count(10), 1);
    }

    // ---- promise 36 ----

    private static BallotBook threeRules(Case c) {
        c.begin("papers 40;station 0 9;station 11 16;voters 0 5;voters 1 5");
        c.goodRule("serve station + 1");
        c.goodRule("serve 1 if hour % 2 = station");
        c.goodRule("serve 0");
        return c.book;
    }

    @Sentence(promise = 36, text = "RULED: which of the RULES, and of none, so that from the begin on, all as the text told it, all NOTES are so: "
            + "how many; the first (none ahead of 0, told as NONE).")
    static void p36WhichRules(Case c) {
        BallotBook b = threeRules(c);
        c.due("all, and none", b.ruled(0), 4);
        c.due("none first", b.ruled(1), NONE);
        b.note(0, 0, 1);
        c.due("none and 1", b.ruled(0), 2);
        c.due("none first", b.ruled(1), NONE);
        b.note(1, 1, 1);
        c.due("1 alone", b.ruled(0), 1);
        c.due("1", b.ruled(1), 1);
        b.note(NONE, 0, 0);
        b.note(0, 0, 0);
        c.due("0 and 2", b.ruled(0), 2);
        c.due("0 first", b.ruled(1), 0);
        b.note(60, 1, 0);
        c.due("2 alone", b.ruled(1), 2);
    }

    @Sentence(promise = 36, text = "so that from the begin on, all as the text told it, all NOTES are so")
    static void p36FromTheBeginOn(Case c) {
        BallotBook b = threeRules(c);
        b.note(0, 0, 1);
        b.force(2);
        c.hours(4);
        b.send(0, 1, 5);
        b.lend(0, 1, 9);
        c.due("whatever was done, whatever is in force", b.ruled(0), 2);
        c.due("the first", b.ruled(1), NONE);
    }

    @Sentence(promise = 36, text = "which of the RULES, and of none")
    static void p36SixRules(Case c) {
        BallotBook b = c.begin("papers 9;station 0 2;voters 0 3");
        c.due("none alone", b.ruled(0), 1);
        for (int rule = 0; rule < 6; rule++) {
            c.rule("serve " + rule);
        }
        c.due("all seven", b.ruled(0), 7);
        b.note(0, 0, 1);
        c.due("but rule 0", b.ruled(0), 6);
        c.due("none is the first", b.ruled(1), NONE);
        b.note(0, 0, 0);
        c.due("none of them", b.ruled(0), 0);
    }

    @Sentence(promise = 36, text = "RULED what 0: how many, 1: the first (NONE: none; -2: there is none such).")
    static void p36NoneSuch(Case c) {
        BallotBook b = threeRules(c);
        b.note(0, 0, 2);
        c.due("how many", b.ruled(0), 0);
        c.due("the first", b.ruled(1), -2);
    }

    @Sentence(promise = 36, text = "-3 for others, or without an ELECTION.")
    static void p36Others(Case c) {
        c.due("no election", c.book.ruled(0), -3);
        c.rule("serve 1");
        c.due("no election", c.book.ruled(1), -3);
        BallotBook b = c.begin("papers 3");
        c.due("no stations, but an election", b.ruled(0), 1);
        c.due("none", b.ruled(1), NONE);
        c.refused("others", -3, () -> b.ruled(2), () -> b.ruled(-1), () -> b.ruled(Case.MOST), () -> b.ruled(Case.LEAST));
    }

    // ---- promise 37 ----

    @Sentence(promise = 37, text = "LOOK behind the HOUR whose number is n: the STATION by whose BOX these part best: the most alike are fewest, of "
            + "several the least; how many.")
    static void p37PartBest(Case c) {
        BallotBook b = threeRules(c);
        // behind hour 0 (none, 0, 1, 2): 1 0 1 0 at 0, and 0 1 0 0 at 1
        c.due("0 parts best", b.look(0, 0), 0);
        c.due("two alike", b.look(0, 1), 2);
        // behind hour 2: 3 0 2 0 at 0, 0 3 1 0 at 1
        c.due("both alike: the least", b.look(2, 0), 0);
        c.due("two alike", b.look(2, 1), 2);
        // 0 and 2 alone: nothing at 0, 1 or 0 at 1
        b.note(0, 0, 0);
        c.due("1 parts them", b.look(0, 0), 1);
        c.due("one each", b.look(0, 1), 1);
    }

    @Sentence(promise = 37, text = "LOOK behind the HOUR whose number is n")
    static void p37NoughtToSixty(Case c) {
        BallotBook b = c.begin("papers 9;station 0 2;voters 0 1");
        c.rule("serve 0");
        c.rule("serve 1 if hour >= 60");
        b.note(0, 0, 0);
        c.due("not parted behind hour 0", b.look(0, 1), 2);
        c.due("nor behind 59", b.look(59, 1), 2);
        c.due("behind 60", b.look(60, 1), 1);
        c.due("station", b.look(60, 0), 0);
        c.refused("beyond", NONE, () -> b.look(61, 0), () -> b.look(-1, 0), () -> b.look(Case.MOST, 1),
                () -> b.look(Case.LEAST, 1));
    }

    @Sentence(promise = 37, text = "of several the least; how many")
    static void p37OneRuleAlone(Case c) {
        BallotBook b = c.begin(Case.THREE);
        c.due("none alone: all part alike", b.look(5, 0), 0);
        c.due("one", b.look(5, 1), 1);
        for (int rule = 0; rule < 6; rule++) {
            c.rule("serve 1");
        }
        c.due("seven alike", b.look(60, 1), 7);
        c.due("the least", b.look(60, 0), 0);
    }

    @Sentence(promise = 37, text = "-2: no RULE is so, or there are no STATIONS.")
    static void p37NoRuleOrNoStations(Case c) {
        BallotBook b = threeRules(c);
        b.note(0, 0, 2);
        c.due("no rule is so", b.look(0, 0), -2);
        c.due("no rule is so", b.look(0, 1), -2);
        c.begin("papers 3");
        c.due("no stations", c.book.look(0, 0), -2);
        c.due("no stations", c.book.look(60, 1), -2);
    }

    @Sentence(promise = 37, text = "NONE without these, or an ELECTION.")
    static void p37WithoutThese(Case c) {
        c.due("no election", c.book.look(0, 0), NONE);
        BallotBook b = c.begin("papers 3");
        c.refused("asked ahead of the stations", NONE, () -> b.look(0, 2), () -> b.look(0, -1), () -> b.look(61, 0),
                () -> b.look(0, Case.MOST), () -> b.look(0, Case.LEAST));
    }

    // ---- promise 38 ----

    @Sentence(promise = 38, text = "x becomes a number: what it was; NONE, and nothing happens, below 0.")
    static void p38Seed(Case c) {
        BallotBook b = c.book;
        c.due("0 at first", b.seed(0), 0);
        c.due("0", b.seed(1), 0);
        c.due("1", b.seed(Case.MOST), 1);
        c.due("the greatest", b.count(12), Case.MOST);
        c.refused("below 0", NONE, () -> b.seed(-1), () -> b.seed(Case.LEAST));
        c.due("the greatest still", b.seed(7), Case.MOST);
    }

    @Sentence(promise = 38, text = "x becomes a number: what it was")
    static void p38NoAct(Case c) {
        BallotBook b = c.begin(Case.THREE);
        b.hour();
        b.seed(9);
        c.due("acts", b.count(11), 1);
        b.undo();
        c.due("x stays", b.count(12), 9);
    }

    // ---- promise 39 ----
    // From 0 on the draws are 0, 21468, 9988, 22117, 3498, 16927; from 2147483647 on 15929, 4409, 9862.

    @Sentence(promise = 39, text = "DRAWS: x (0 to 2147483647; 0 at first) becomes x * 1103515245 + 12345, of 2147483648 the rest; a DRAW is x / "
            + "65536.")
    static void p39Draws(Case c) {
        BallotBook b = c.begin("papers 9;station 0 2;station 4 6;station 7 8");
        c.due("0 is below 1: one comes to 21468 mod 3, 0, and is served", b.crowded(1, 1, 1, 0), 1);
        c.due("0 is not below 0", b.crowded(1, 1, 0, 0), 0);
        b.seed(Case.MOST);
        c.due("29 is below 30", b.crowded(1, 1, 30, 0), 1);
        c.due("29 is not below 29", b.crowded(1, 1, 29, 0), 0);
        b.seed(12345);
        c.due("68 is below 69", b.crowded(1, 1, 69, 0), 1);
        c.due("68 is not below 68", b.crowded(1, 1, 68, 0), 0);
    }

    @Sentence(promise = 39, text = "a DRAW mod how many: one more WAITS there")
    static void p39Where(Case c) {
        // nobody is served at an empty stock, so it is seen who comes where
        BallotBook b = c.begin("papers 9;station 0 2;station 4 6;spoiled 4;spoiled 5;spoiled 6");
        c.due("21468 mod 2 is 0: served", b.crowded(1, 1, 100, 1), 0);
        c.due("22117 mod 2 is 1: waits", b.crowded(1, 2, 100, 1), 1);
        c.due("one is served", b.crowded(1, 2, 100, 0), 1);
        // 0 below 50, 21468 to 0; 88 is not, and takes no second draw; 22117 is 17 below 50, 3498 to 0
        c.due("no second draw without need", b.crowded(1, 3, 50, 0), 2);
    }

    @Sentence(promise = 39, text = "CROWDED m times (1 to 10; each from now on, as all is; x goes on) n HOURS (1 to 60)")
    static void p39XGoesOn(Case c) {
        BallotBook b = c.begin("papers 9;station 0 2;station 4 6");
        c.due("once", b.crowded(1, 1, 50, 0), 1);
        c.due("the second time 88 is drawn", b.crowded(2, 1, 50, 0), 1);
        c.due("the third time 17", b.crowded(3, 1, 50, 0), 2);
        c.due("each from now on", b.crowded(10, 1, 100, 0), 10);
    }

    @Sentence(promise = 39, text = "CROWDED m times (1 to 10; each from now on, as all is; x goes on) n HOURS (1 to 60)")
    static void p39Bounds(Case c) {
        BallotBook b = c.begin(Case.THREE);
        c.due("one hour", b.crowded(1, 1, 0, 0), 1);
        c.due("60 hours", b.crowded(1, 60, 0, 0), 6);
        c.due("ten times 60 hours", b.crowded(10, 60, 0, 0), 60);
        c.refused("m", NONE, () -> b.crowded(0, 1, 0, 0), () -> b.crowded(11, 1, 0, 0), () -> b.crowded(-1, 1, 0, 0),
                () -> b.crowded(Case.MOST, 1, 0, 0), () -> b.crowded(Case.LEAST, 1, 0, 0));
        c.refused("n", NONE, () -> b.crowded(1, 0, 0, 0), () -> b.crowded(1, 61, 0, 0), () -> b.crowded(1, -1, 0, 0),
                () -> b.crowded(1, Case.MOST, 0, 0), () -> b.crowded(1, Case.LEAST, 0, 0));
    }

    @Sentence(promise = 39, text = "CROWDED m times (1 to 10; each from now on, as all is; x goes on) n HOURS (1 to 60)")
    static void p39SixtyHours(Case c) {
        BallotBook b = c.begin("papers 3;station 0 1;voters 0 1");
        c.enforce("serve 1 if hour >= 59");
        c.due("59", b.crowded(1, 59, 0, 0), 0);
        c.due("60", b.crowded(1, 60, 0, 0), 1);
        c.hours(1);
        c.due("from now on", b.crowded(1, 59, 0, 0), 1);
    }

    @Sentence(promise = 39, text = "is it below p (0 to 100), and are there STATIONS")
    static void p39BelowP(Case c) {
        BallotBook b = c.begin(Case.THREE);
        c.due("0: nobody comes", b.crowded(1, 60, 0, 1), 0);
        c.due("100: one comes each hour", b.crowded(1, 6, 100, 1), 6);
        c.refused("p", NONE, () -> b.crowded(1, 1, -1, 0), () -> b.crowded(1, 1, 101, 0), () -> b.crowded(1, 1, Case.MOST, 0),
                () -> b.crowded(1, 1, Case.LEAST, 0));
        c.begin("papers 3");
        c.due("no stations", c.book.crowded(10, 60, 100, 1), 0);
        c.due("no stations", c.book.crowded(10, 60, 100, 0), 0);
    }

    @Sentence(promise = 39, text = "one more WAITS there, if fewer than 99 do")
    static void p39NinetyNine(Case c) {
        BallotBook b = c.begin("papers 3;station 0 0;voters 0 60;spoiled 0");
        c.due("98", b.crowded(1, 38, 100, 1), 98);
        c.due("99", b.crowded(1, 39, 100, 1), 99);
        c.due("no more", b.crowded(1, 40, 100, 1), 99);
        c.due("no more", b.crowded(1, 60, 100, 1), 99);
        b = c.begin("papers 3;station 0 0;station 1 1;voters 0 60;voters 1 60;spoiled 0;spoiled 1");
        for (int i = 0; i < 6; i++) {
            b.send(1, 0, 9);
        }
        b.send(1, 0, 6);
        // 120 wait at 0: who is drawn there (21468, even) does not come
        c.due("120 stay", b.crowded(1, 1, 100, 1), 120);
    }

    @Sentence(promise = 39, text = "how many are in all BOXES at the end; how many WAIT then, all together (nothing stays; x as it was)")
    static void p39NothingStays(Case c) {
        BallotBook b = c.begin(Case.THREE);
        c.hours(2);
        b.seed(5);
        String before = c.state();
        c.due("boxes of ten times", b.crowded(10, 4, 0, 0), 60);
        c.due("who wait, of ten times", b.crowded(10, 1, 0, 1), 30);
        b.crowded(10, 60, 100, 0);
        c.same("nothing stays", before);
        c.due("x as it was", b.count(12), 5);
    }

    @Sentence(promise = 39, text = "NONE without these, or an ELECTION.")
    static void p39WithoutThese(Case c) {
        c.due("no election", c.book.crowded(1, 1, 0, 0), NONE);
        BallotBook b = c.begin(Case.THREE);
        c.refused("no such what", NONE, () -> b.crowded(1, 1, 0, 2), () -> b.crowded(1, 1, 0, -1),
                () -> b.crowded(1, 1, 0, Case.MOST), () -> b.crowded(1, 1, 0, Case.LEAST));
    }

    // ---- promise 40 ----

    @Sentence(promise = 40, text = "What 0: PRINTED, 1: STATIONS, 2: RULES, 3: the RULE IN FORCE (NONE), 4: HOUR, 5: how many are in STOCK at all, 6: "
            + "in all BOXES, 7: SPOILED at all, 8: how many WAIT at all, 9: STATIONS that CAN serve, as bits, 10: NOTES, 11: ACTS "
            + "that can be UNDONE, 12: x, 13: bytes of the TAPE.")
    static void p40All(Case c) {
        BallotBook b = c.begin(Case.THREE);
        c.rule("serve 1");
        c.rule("serve waiting");
        b.force(1);
        c.hours(4);
        b.spoil(0);
        b.seed(77);
        b.note(0, 0, 0);
        b.note(0, 0, 0);
        c.put("papers");
        // waiting 4 2, 3 2, 2 2, 1 2: 0 0 0 1 serve; 0 to 2 and 11 are in boxes, 10 and 12 spoiled, then 0
        int[] want = {20, 3, 2, 1, 4, 12, 3, 3, 2, 3, 2, 5, 77, 6};
        for (int what = 0; what < want.length; what++) {
            c.due("count " + what, b.count(what), want[what]);
        }
    }

    @Sentence(promise = 40, text = "NONE for others.")
    static void p40Others(Case c) {
        BallotBook b = c.begin(Case.THREE);
        c.refused("others", NONE, () -> b.count(14), () -> b.count(-1), () -> b.count(Case.MOST), () -> b.count(Case.LEAST));
    }

    @Sentence(promise = 40, text = "9: STATIONS that CAN serve, as bits")
    static void p40Bits(Case c) {
        BallotBook b = c.begin("papers 5;station 0 0;station 1 1;station 2 2;station 3 3;station 4 4;"
                + "voters 0 1;voters 1 1;voters 2 1;voters 3 1;voters 4 1");
        c.due("all five", b.count(9), 31);
        b.spoil(2);
        c.due("not 2", b.count(9), 27);
        b.send(4, 0, 1);
        c.due("nor 4", b.count(9), 11);
    }

    @Sentence(promise = 40, text = "11: ACTS that can be UNDONE")
    static void p40TwentyActs(Case c) {
        BallotBook b = c.begin("papers 3;station 0 0");
        for (int i = 0; i <= 25; i++) {
            c.due("acts", b.count(11), Math.min(i, 20));
            b.hour();
        }
    }

    // ---- promise 41 ----

    @Sentence(promise = 41, text = "An IMAGE is made (also where nothing was told yet): HOUR; NONE for another k.")
    static void p41NothingTold(Case c) {
        c.due("new", c.book.image(0), 0);
        c.begin(Case.THREE);
        c.hours(3);
        c.due("hour", c.book.image(3), 3);
        c.due("acts stay", c.book.count(11), 3);
        c.due("an image is no act", c.book.undo(), 2);
    }

    @Sentence(promise = 41, text = "NONE for another k")
    static void p41AnotherK(Case c) {
        BallotBook b = c.begin(Case.THREE);
        c.refused("k", NONE, () -> b.image(4), () -> b.image(-1), () -> b.image(Case.MOST), () -> b.image(Case.LEAST));
        for (int k = 0; k < 4; k++) {
            c.due("k " + k, b.image(k), 0);
        }
    }

    @Sentence(promise = 41, text = "IMAGES 0 to 3")
    static void p41FourImages(Case c) {
        BallotBook b = c.begin(Case.THREE);
        for (int k = 0; k < 4; k++) {
            b.image(k);
            b.hour();
        }
        for (int k = 3; k >= 0; k--) {
            c.due("back to " + k, b.back(k), k);
        }
        c.hours(2);
        c.due("made anew", b.image(1), 2);
        b.back(3);
        c.due("in place of the one there was", b.back(1), 2);
    }

    // ---- promise 42 ----

    @Sentence(promise = 42, text = "NONE, and nothing happens, if it was never made, or without it.")
    static void p42NeverMade(Case c) {
        BallotBook b = c.begin(Case.THREE);
        c.hours(1);
        b.image(1);
        c.refused("never made", NONE, () -> b.back(0), () -> b.back(2), () -> b.back(3));
        c.refused("no such image", NONE, () -> b.back(4), () -> b.back(-1), () -> b.back(Case.MOST),
                () -> b.back(Case.LEAST));
        c.due("an act can be undone still", b.count(11), 1);
    }

    @Sentence(promise = 42, text = "IMAGES 0 to 3: all but the TAPE and the RULES, as it is (the RULE IN FORCE, too); gone back to, it is as it was")
    static void p42AsItWas(Case c) {
        BallotBook b = c.begin(Case.THREE);
        c.enforce("serve 1");
        b.seed(3);
        c.hours(5);
        b.move(0, 1, 2);
        b.tell(0, 0, 4);
        b.recount(2);
        b.note(1, 0, 2);
        b.image(3);
        b.back(3);
        String then = c.state();
        b.force(NONE);
        b.seed(9);
        c.hours(3);
        b.move(0, 1, 2);
        b.spoil(16);
        b.tell(0, 0, 5);
        b.note(NONE, 0, 0);
        b.back(3);
        c.same("as it was", then);
        c.due("the begin and the notes, too", b.ruled(0), 2);
        c.due("and ways", b.way(1, 1), 1);
    }

    @Sentence(promise = 42, text = "all but the TAPE and the RULES")
    static void p42TapeAndRulesStay(Case c) {
        BallotBook b = c.book;
        c.put("papers 1");
        b.image(0);
        b.election();
        c.rule("serve 1");
        c.put("pap");
        c.due("back", b.back(0), 0);
        c.due("the tape of now", b.count(13), 3);
        c.due("the rules of now", b.count(2), 1);
        c.due("no election", b.hour(), NONE);
        c.due("no papers", b.count(0), 0);
        c.due("the rule can be forced", b.force(0), NONE);
    }

    @Sentence(promise = 42, text = "(the RULE IN FORCE, too)")
    static void p42TheRuleInForce(Case c) {
        BallotBook b = c.begin(Case.THREE);
        b.image(0);
        c.enforce("serve station");
        b.image(1);
        b.back(0);
        c.due("none in force", b.count(3), NONE);
        c.due("the least", b.ahead(0, 1, 1), 1);
        b.back(1);
        c.due("rule 0", b.count(3), 0);
        c.due("by it", b.ahead(1, 1, 1), 1);
    }

    @Sentence(promise = 42, text = "(these stay; nothing can be UNDONE then)")
    static void p42TheseStay(Case c) {
        BallotBook b = c.begin(Case.THREE);
        c.hours(4);
        b.image(0);
        c.hours(1);
        b.image(1);
        for (int i = 0; i < 3; i++) {
            c.due("back to 0", b.back(0), 4);
            c.hours(2);
            b.spoil(0);
            c.due("back to 1", b.back(1), 5);
            c.due("as it was", b.paper(0, 1), 1);
        }
    }

    @Sentence(promise = 42, text = "nothing can be UNDONE then")
    static void p42NothingCanBeUndone(Case c) {
        BallotBook b = c.begin(Case.THREE);
        c.hours(25);
        b.image(2);
        c.hours(1);
        b.back(2);
        c.due("acts", b.count(11), 0);
        c.refused("undo", NONE, b::undo);
        c.hours(1);
        c.due("the act behind it alone", b.undo(), 0);
        c.refused("no more", NONE, b::undo);
        c.due("hour", b.count(4), 25);
    }

    @Sentence(promise = 42, text = "All is as in an IMAGE: HOUR")
    static void p42AnotherElection(Case c) {
        BallotBook b = c.begin(Case.THREE);
        c.hours(2);
        b.image(0);
        c.goodElection("papers 5;station 0 4;voters 0 60", 1);
        c.hours(3);
        c.due("hour of the image", b.back(0), 2);
        c.due("stations", b.count(1), 3);
        c.due("printed", b.count(0), 20);
        c.due("box", b.station(0, 1), 2);
        c.due("a station of the image", b.station(2, 0), 3);
        c.due("numbers it was told to have", b.station(1, 4), 5);
        b.recount(1);
        c.due("balance", b.balance(1), 1000);
    }

    @Sentence(promise = 42, text = "All is as in an IMAGE: HOUR")
    static void p42NotesAndBegin(Case c) {
        BallotBook b = c.begin(Case.THREE);
        b.note(4, 1, 1);
        b.image(1);
        c.goodElection("papers 5;station 0 4", 1);
        b.note(0, 0, 0);
        b.note(1, 0, 0);
        b.back(1);
        c.due("notes", b.count(10), 1);
        c.due("from the begin of the image on", b.ruled(0), 1);
        b.note(0, 0, 0);
        c.due("0 has one behind hour 0", b.ruled(0), 0);
    }

    @Sentence(promise = 42, text = "gone back to, it is as it was")
    static void p42RowsGoOn(Case c) {
        BallotBook b = c.begin(Case.THREE);
        c.hours(4);
        b.spoil(9);
        b.find(9);
        b.image(0);
        c.goodElection("papers 3;station 0 2", 1);
        b.back(0);
        b.spoil(5);
        b.find(5);
        b.hour();
        c.dueRow(0, 1, 0, 1, 2, 4, 9, 5);
        c.dueRow(1, 1, 11);
        c.dueRow(1, 2, 12, 10);
    }
}
