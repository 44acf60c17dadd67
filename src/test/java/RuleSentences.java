/** Promises 5 and 6: rules, what they say, their faults, and which is in force. */
final class RuleSentences {
    private static final int NONE = Case.NONE;

    private RuleSentences() {
    }

    private static void sixRules(Case c) {
        for (int i = 0; i < 6; i++) {
            c.due("rule " + i, c.rule("serve " + i), i);
        }
    }

    /** A sum of that many ones. */
    private static String ones(int many) {
        return "1" + "+1".repeat(many - 1);
    }

    // ---- promise 5 ----

    @Sentence(promise = 5, text = "NONE, and nothing happens (the TAPE stays, too; asked first): there are 6 RULES.")
    static void p05ThereAreSix(Case c) {
        sixRules(c);
        c.put("serve 1");
        c.refused("a seventh", NONE, c.book::rule, c.book::rule);
        c.due("the tape stays", c.book.count(13), 7);
        c.due("rules", c.book.count(2), 6);
    }

    @Sentence(promise = 5, text = "(the TAPE stays, too; asked first)")
    static void p05AskedFirst(Case c) {
        sixRules(c);
        c.put("papers 7");
        c.refused("a text with a fault", NONE, c.book::rule);
        c.due("the tape is as it was", c.book.election(), 0);
        c.due("printed", c.book.count(0), 7);
        c.refused("no text", NONE, c.book::rule);
    }

    @Sentence(promise = 5, text = "Else the TAPE, which is empty then (with a FAULT, too), is a RULE: its number")
    static void p05ItsNumber(Case c) {
        for (int i = 0; i < 6; i++) {
            c.due("rule " + i, c.rule("serve " + i), i);
            c.due("tape", c.book.count(13), 0);
            c.due("rules", c.book.count(2), i + 1);
        }
    }

    @Sentence(promise = 5, text = "which is empty then (with a FAULT, too)")
    static void p05EmptyWithAFault(Case c) {
        c.badRule("serve 1 ^2", 0);
        c.due("tape", c.book.count(13), 0);
        c.due("rules", c.book.count(2), 0);
        c.due("the next one is number 0", c.rule("serve 1"), 0);
        c.badRule("^", 0);
        c.due("the next one is number 1", c.rule("serve 1"), 1);
    }

    @Sentence(promise = 5, text = "is a RULE: its number; -2 - its FAULT.")
    static void p05WithoutAnElection(Case c) {
        c.due("rule", c.rule("serve 1"), 0);
        c.due("no election", c.book.count(1), 0);
        c.due("still none", c.book.hour(), NONE);
        c.due("place 0, kind 0", c.rule("papers 3"), -3);
    }

    @Sentence(promise = 5, text = "RULES 0 to 5: texts likewise, 12 CLAUSES at most: serve SUM [ if TEST ].")
    static void p05TwelveClauses(Case c) {
        String twelve = "serve 1" + ";serve 1".repeat(11);
        c.goodRule(twelve);
        c.badRule(twelve + ";^serve 1", 4);
        c.badRule(twelve + " ; ^serve", 4);
        c.badRule("serve 1" + ";serve 1".repeat(10) + ";^", 0);
    }

    @Sentence(promise = 5, text = "texts likewise")
    static void p05TextOf400Bytes(Case c) {
        c.goodRule(" ".repeat(393) + "serve 1");
        c.goodRule("serve 1" + " ".repeat(393));
        c.badRule(" ".repeat(399) + "^s", 0);
        c.badRule("serve 1" + " ".repeat(392) + ";^", 0);
    }

    @Sentence(promise = 5, text = "serve SUM [ if TEST ]")
    static void p05ServeSumIfTest(Case c) {
        c.goodRule("serve 1");
        c.goodRule("serve 1 if 1 = 1");
        c.badRule("serve^", 0);
        c.badRule("^if 1 = 1", 0);
        c.badRule("serve ^if 1 = 1", 0);
        c.badRule("serve 1 if^", 0);
        c.badRule("serve 1 if 1 = 1 ^if 1 = 1", 0);
        c.badRule("serve 1 ^[ if 1 = 1 ]", 0);
        c.badRule("^serves 1", 0);
        c.badRule("serve 1 ^iff 1 = 1", 0);
        c.badRule("serve 1 ^serve 2", 0);
    }

    @Sentence(promise = 5, text = "TEST: PART { or PART }. PART: FACT { and FACT }.")
    static void p05AndBindsCloser(Case c) {
        c.holds("1 = 1 or 1 = 2 and 1 = 2", true);
        c.holds("1 = 2 and 1 = 2 or 1 = 1", true);
        c.holds("1 = 2 and 1 = 1 or 1 = 2", false);
        c.holds("1 = 2 or 1 = 1 and 1 = 1", true);
        c.holds("1 = 2 or 1 = 1 and 1 = 2 or 1 = 2", false);
        c.holds("1 = 1 and 1 = 1 and 1 = 2", false);
        c.holds("1 = 2 or 1 = 2 or 1 = 1", true);
    }

    @Sentence(promise = 5, text = "TEST: PART { or PART }. PART: FACT { and FACT }.")
    static void p05NothingBehindOrAndAnd(Case c) {
        c.badRule("serve 1 if 1 = 1 or^", 0);
        c.badRule("serve 1 if 1 = 1 and^", 0);
        c.badRule("serve 1 if ^or 1 = 1", 0);
        c.badRule("serve 1 if 1 = 1 and ^and 1 = 1", 0);
        c.badRule("serve 1 if 1 = 1 ^orr 1 = 1", 0);
        c.badRule("serve 1 if 1 = 1 ^1 = 1", 0);
    }

    @Sentence(promise = 5, text = "FACT: not FACT | [ TEST ] (these brackets are signs) | SUM SIGN SUM")
    static void p05NotBindsOneFact(Case c) {
        c.holds("not 1 = 2 and 1 = 2", false);
        c.holds("not 1 = 1 or 1 = 1", true);
        c.holds("not [1 = 1 or 1 = 1]", false);
        c.holds("not not 1 = 1", true);
        c.holds("not not not 1 = 1", false);
        c.holds("not [not [1 = 2]]", false);
    }

    @Sentence(promise = 5, text = "FACT: not FACT | [ TEST ] (these brackets are signs) | SUM SIGN SUM")
    static void p05Brackets(Case c) {
        c.holds("[1 = 1 or 1 = 1] and 1 = 2", false);
        c.holds("1 = 2 and [1 = 1 or 1 = 1]", false);
        c.holds("[[[1 = 1]]]", true);
        c.renew();
        c.badRule("serve 1 if [1 = 1^", 0);
        c.badRule("serve 1 if 1 = 1^]", 0);
        c.badRule("serve 1 if [^]", 0);
        c.badRule("serve 1 if [1 + 1^] = 2", 0);
        c.badRule("serve 1 if ^(1 = 1)", 0);
        c.badRule("serve ^[1]", 0);
        c.badRule("serve 1 if not^", 0);
        c.badRule("serve 1 if [1 = 1] ^= 1", 0);
    }

    @Sentence(promise = 5, text = "SIGN one of < <= = >= >")
    static void p05Signs(Case c) {
        String[] signs = {"<", "<=", "=", ">=", ">"};
        boolean[][] want = {{true, false, false}, {true, true, false}, {false, true, false}, {false, true, true},
            {false, false, true}};
        for (int sign = 0; sign < signs.length; sign++) {
            for (int left = 1; left <= 3; left++) {
                c.holds(left + signs[sign] + "2", want[sign][left - 1]);
            }
        }
    }

    @Sentence(promise = 5, text = "SIGN one of < <= = >= >")
    static void p05NoOtherSigns(Case c) {
        c.badRule("serve 1 if 1 =^= 2", 0);
        c.badRule("serve 1 if 1 =^< 2", 0);
        c.badRule("serve 1 if 1 =^> 2", 0);
        c.badRule("serve 1 if 1 <^> 2", 0);
        c.badRule("serve 1 if 1 < ^= 2", 0);
        c.badRule("serve 1 if 1 > ^= 2", 0);
        c.badRule("serve 1 if 1 <=^= 2", 0);
        c.badRule("serve 1 if 1 ^! 2", 0);
        c.badRule("serve 1 if 1^", 0);
        c.badRule("serve 1 if 1 <=^", 0);
        c.badRule("serve 1 if 1 < 2 ^< 3", 0);
    }

    @Sentence(promise = 5, text = "SUM: TERM { (+ or -) TERM }. TERM: VALUE { (* or / or %) VALUE }.")
    static void p05Operations(Case c) {
        c.holds("2 + 3 * 4 = 14", true);
        c.holds("3 * 4 + 2 = 14", true);
        c.holds("10 - 3 - 4 = 3", true);
        c.holds("10 - 3 + 4 = 11", true);
        c.holds("20 / 2 / 5 = 2", true);
        c.holds("20 / 2 * 5 = 50", true);
        c.holds("7 % 4 * 2 = 6", true);
        c.holds("7 * 2 % 4 = 2", true);
        c.holds("1 + 6 / 4 - 9 % 5 = 0 - 2", true);
    }

    @Sentence(promise = 5, text = "SUM: TERM { (+ or -) TERM }. TERM: VALUE { (* or / or %) VALUE }.")
    static void p05NothingBehindAnOperation(Case c) {
        c.badRule("serve 1 +^", 0);
        c.badRule("serve 1 -^", 0);
        c.badRule("serve 1 * ^", 0);
        c.badRule("serve 1 /^;serve 1", 0);
        c.badRule("serve 1 % ^+ 1", 0);
        c.badRule("serve ^-1", 0);
        c.badRule("serve ^+1", 0);
        c.badRule("serve 1 ^& 2", 0);
    }

    @Sentence(promise = 5, text = "NUMBER (1 to 5 digits, as far as digits go on)")
    static void p05Digits(Case c) {
        c.holds("99999 = 99998 + 1", true);
        c.holds("00007 = 7", true);
        c.holds("0 = 00000", true);
        c.renew();
        c.badRule("serve ^100000", 1);
        c.badRule("serve ^000001", 1);
        c.badRule("serve 1 + ^99999999999999999999", 1);
        c.badRule("serve 1 if 1 = ^123456 and", 1);
        c.goodRule("serve 99999");
    }

    @Sentence(promise = 5, text = "WORDS (small letters, as far as these go on) of a STATION that CAN serve")
    static void p05WordsGoOn(Case c) {
        c.badRule("serve ^stations", 0);
        c.badRule("serve ^statio", 0);
        c.badRule("serve ^hourif 1 = 1", 0);
        c.badRule("serve ^hourz", 0);
        c.badRule("serve ^houra", 0);
        c.badRule("serve hour^{", 0);
        c.badRule("serve hour^`", 0);
        c.badRule("serve 1 if 1 = 1 ^orz 1 = 1", 0);
        c.badRule("serve ^Hour", 0);
        c.badRule("serve ^serve", 0);
        c.badRule("serve ^not", 0);
        c.badRule("serve ^papers", 0);
        c.badRule("serve hour^X", 0);
        c.badRule("serve hour^7", 0);
        c.goodRule("serve hour/7if hour=1and 1<2or 3>4");
    }

    @Sentence(promise = 5, text = "station, waiting (how many WAIT there), stock, box, spoiled (how many PAPERS there are so)")
    static void p05WordsOfTheStation(Case c) {
        c.holds("station = 0", true);
        c.holds("waiting = 3", true);
        c.holds("stock = 9", true);
        c.holds("box = 0", true);
        c.holds("spoiled = 1", true);
        // behind hour 2: 0 1 2 are in the box
        c.begin(Case.THREE);
        c.hours(3);
        c.enforce("serve 1 if station = 0 and box = 3 and waiting = 1 and stock = 7 and spoiled = 0");
        c.due("as it is now", c.book.hour(), 0);
        c.due("as it is no more", c.book.hour(), -2);
    }

    @Sentence(promise = 5, text = "next (the least number in its STOCK), runs (RUNS of its STOCK)")
    static void p05NextAndRuns(Case c) {
        c.holds("next = 0 and runs = 2", true);
        c.begin("papers 60;station 59 59;voters 0 2");
        c.enforce("serve 1 if next = 59 and runs = 1");
        c.due("the last number", c.book.hour(), 0);
        c.begin("papers 60;station 0 59;voters 0 2;spoiled 0;spoiled 2;spoiled 4;spoiled 58");
        c.enforce("serve 1 if next = 1 and runs = 4");
        c.due("1, 3, 5 to 57, 59", c.book.hour(), 0);
    }

    @Sentence(promise = 5, text = "crowd (how many WAIT at all), left (how many are in STOCK at all), hour")
    static void p05WordsOfAll(Case c) {
        c.holds("crowd = 7 and left = 15 and hour = 0", true);
        // who can't serve counts, too
        c.begin("papers 20;station 0 4;station 5 9;station 10 10;voters 0 1;voters 2 5;spoiled 10");
        c.enforce("serve 1 if crowd = 6 and left = 10 and hour = 0");
        c.due("all of them", c.book.hour(), 0);
    }

    @Sentence(promise = 5, text = "crowd (how many WAIT at all), left (how many are in STOCK at all), hour")
    static void p05HourGoesOn(Case c) {
        c.begin("papers 20;station 0 9;voters 0 9");
        c.enforce("serve 1 if hour = 2");
        int[] want = {-2, -2, 0, -2};
        for (int hour = 0; hour < want.length; hour++) {
            c.due("hour " + hour, c.book.hour(), want[hour]);
        }
    }

    @Sentence(promise = 5, text = "/ is towards 0, % its rest, both 0 by 0")
    static void p05TowardsNought(Case c) {
        c.holds("7 / 2 = 3", true);
        c.holds("0 - 7 / 2 = 0 - 3", true);
        // what is divided is below 0 only if it went round: -2 to the 63rd by 7 has the rest -1
        c.holds("65536*65536*65536*32768 / 7 * 7 = 65536*65536*65536*32768 + 1", true);
        c.holds("65536*65536*65536*32768 % 7 = 0 - 1", true);
        c.holds("99999*99999*99999*9227 % 10 = 0 - 3", true);
        c.holds("99999*99999*99999*9227 / 99999 % 10 = 0 - 2", true);
    }

    @Sentence(promise = 5, text = "both 0 by 0")
    static void p05ByNought(Case c) {
        c.holds("7 / 0 = 0", true);
        c.holds("7 % 0 = 0", true);
        c.holds("0 / 0 = 0 and 0 % 0 = 0", true);
        c.holds("7 / box = 0 and 7 % box = 0", true);
        c.holds("5 + 7 / 0 * 3 = 5", true);
    }

    @Sentence(promise = 5, text = "all goes round in 64 bits")
    static void p05GoesRound(Case c) {
        // 65536 * 65536 * 65536 * 32768 is 2 to the 63rd: below 0; twice that is 0
        c.holds("65536*65536*65536*32768 < 0", true);
        c.holds("65536*65536*65536*32768 - 1 > 0", true);
        c.holds("65536*65536*65536*65536 = 0", true);
        c.holds("65536*65536*65536*32768*2 = 0", true);
        c.holds("65536*65536*65536*32768 + 65536*65536*65536*32768 = 0", true);
        c.holds("65536*65536*65536*32767 > 0", true);
    }

    @Sentence(promise = 5, text = "all goes round in 64 bits")
    static void p05TheLeastNumber(Case c) {
        // a divisor is a number or a word, so it is never below 0
        c.holds("0 - 65536*65536*65536*32768 = 65536*65536*65536*32768", true);
        c.holds("65536*65536*65536*32768 / 1 < 0", true);
        c.holds("65536*65536*65536*32768 % 1 = 0", true);
        c.holds("65536*65536*65536*32768 / 65536 + 65536*65536*32768 = 0", true);
    }

    @Sentence(promise = 5, text = "Blanks (32) stand between as one likes.")
    static void p05Blanks(Case c) {
        c.goodRule("  serve   1  +  stock   if   not   [   1   <=   2   ]  ;  serve  1  ");
        c.goodRule("serve1+stock if not[1<=2]and 3=3;serve1");
        c.goodRule("serve1if2=2");
        c.badRule("serve ^sto ck", 0);
        c.badRule("serve 1 ^2", 0);
        c.badRule("serve 1^\t+ 2", 0);
        c.badRule("serve 1 + ^" + (char) 0, 0);
        c.badRule("serve 1^" + (char) 255, 0);
    }

    @Sentence(promise = 5, text = "[ and not lie within one another 10 deep at most")
    static void p05TenDeep(Case c) {
        c.goodRule("serve 1 if " + "[".repeat(10) + "1=1" + "]".repeat(10));
        c.goodRule("serve 1 if " + "not ".repeat(10) + "1=1");
        c.goodRule("serve 1 if " + "not[".repeat(5) + "1=1" + "]".repeat(5));
        c.holds("[[[[[[[[[1=1]]]]]]]]]", true);
        c.holds("not not not not not not not not not 1=1", false);
    }

    @Sentence(promise = 5, text = "2 too deep (at the sign that opens, or the word not)")
    static void p05ElevenDeep(Case c) {
        c.badRule("serve 1 if " + "[".repeat(10) + "^[1=1" + "]".repeat(11), 2);
        c.badRule("serve 1 if " + "not ".repeat(10) + "^not 1=1", 2);
        c.badRule("serve 1 if " + "not[".repeat(5) + "^[1=1" + "]".repeat(6), 2);
        c.badRule("serve 1 if " + "not[".repeat(5) + " ^not 1=1" + "]".repeat(5), 2);
        c.badRule("serve 1 if " + "[".repeat(10) + " ^[", 2);
        c.badRule("serve 1 if " + "[".repeat(10) + "^" + "[".repeat(190), 2);
    }

    @Sentence(promise = 5, text = "[ and not lie within one another 10 deep at most")
    static void p05DeepAndLong(Case c) {
        // nine brackets, behind each of which a fact waits for "or" and one for "and", and a sum: 60 in all
        String deep = "serve 1 if " + "1=2or 1=1and[".repeat(9) + "7=1+2*3" + "]".repeat(9);
        c.badRule(deep + " and ^1=1", 3);
        c.begin("papers 9;station 0 2;voters 0 1");
        c.enforce(deep);
        c.due("it holds", c.book.hour(), 0);
        c.book.undo();
        c.enforce("serve 1 if " + "1=2or 1=1and[".repeat(9) + "8=1+2*3" + "]".repeat(9));
        c.due("it does not", c.book.hour(), -2);
    }

    @Sentence(promise = 5, text = "[ and not lie within one another 10 deep at most")
    static void p05BesideOneAnotherIsNotDeep(Case c) {
        c.goodRule("serve 1 if " + "[1=1] and not 1=2 and ".repeat(8) + "[1=1]");
        c.goodRule("serve 1 if " + "[".repeat(9) + "[1=1] and [1=1] and not 1=1" + "]".repeat(9));
        c.badRule("serve 1 if " + "[".repeat(9) + "[1=1] and [^[1=1]]" + "]".repeat(9), 2);
    }

    @Sentence(promise = 5, text = "at most 60 VALUES (of SUMS) and FACTS made of a SIGN, together")
    static void p05SixtyValues(Case c) {
        c.goodRule("serve " + ones(60));
        c.badRule("serve " + ones(60) + "+^1", 3);
        c.badRule("serve " + ones(60) + "+ ^hour", 3);
        c.badRule("serve " + ones(60) + "*^1", 3);
        c.badRule("serve " + ones(60) + "; serve ^1", 3);
        c.goodRule("serve " + ones(30) + ";serve " + ones(30));
        c.badRule("serve " + ones(30) + ";serve " + ones(30) + ";serve ^1", 3);
    }

    @Sentence(promise = 5, text = "3 one VALUE or FACT too many (at its first byte; of a FACT at its SIGN)")
    static void p05FactsCount(Case c) {
        c.goodRule("serve " + ones(57) + " if 1 < 2");
        c.badRule("serve " + ones(58) + " if 1 < ^2", 3);
        c.badRule("serve " + ones(59) + " if 1 ^< 2", 3);
        c.badRule("serve " + ones(59) + " if 1 ^>= 2", 3);
        c.badRule("serve " + ones(60) + " if ^1 < 2", 3);
        c.goodRule("serve " + ones(57) + " if not [[1 < 2]]");
        c.goodRule("serve " + ones(54) + " if 1=1 and 2=2");
        c.badRule("serve " + ones(55) + " if 1=1 or 2=^2", 3);
    }

    @Sentence(promise = 5, text = "1 a NUMBER of more digits, or not as told")
    static void p05MoreDigits(Case c) {
        c.badRule("serve 1;serve ^123456;serve x", 1);
        c.badRule("serve stock%^100000", 1);
        c.badRule("serve ^1234567 if", 1);
    }

    @Sentence(promise = 5, text = "0 a byte or WORD that can't stand there, or the end (behind the last byte)")
    static void p05ByteWordOrEnd(Case c) {
        c.badRule("^", 0);
        c.badRule("     ^", 0);
        c.badRule("serve    ^", 0);
        c.badRule("serve 1;^", 0);
        c.badRule("serve 1; ^;", 0);
        c.badRule("^papers 3", 0);
        c.badRule("serve ^.", 0);
        c.badRule("serve 1^.", 0);
        c.badRule("serve 1 if [1=1^;serve 1]", 0);
    }

    @Sentence(promise = 5, text = "or the end (behind the last byte)")
    static void p05WhatWasCutOffIsNoSign(Case c) {
        c.put("serve 1 if 1 <= 2");
        c.book.end(14);
        c.due("the end is behind the sign <", c.book.rule(), -2 - (1 + 8 * 14));
    }

    @Sentence(promise = 5, text = "Of one place the least.")
    static void p05OfOnePlaceTheLeast(Case c) {
        c.badRule("serve " + ones(60) + "+^123456", 1);
        c.badRule("serve " + ones(60) + "+^stocks", 0);
        c.badRule("serve " + ones(60) + "+^", 0);
        c.badRule("serve " + ones(59) + " if 1 ^! 2", 0);
        String twelve = "serve 1" + ";serve 1".repeat(11);
        c.badRule(twelve + ";^1", 0);
        c.badRule(twelve + ";^", 0);
        c.badRule(twelve + ";^serves 1", 0);
        c.badRule("serve 1 if " + "[".repeat(10) + "^nots 1=1", 0);
    }

    @Sentence(promise = 5, text = "FAULTS, the first along the text")
    static void p05TheFirstAlongTheText(Case c) {
        c.badRule("serve ^123456 if [[[[[[[[[[[", 1);
        c.badRule("serve 1 if " + "[".repeat(10) + "^[" + "123456", 2);
        c.badRule("serve " + ones(60) + "+^1+123456+x", 3);
        c.badRule("serve ^x;serve 123456", 0);
    }

    // ---- promise 6 ----

    @Sentence(promise = 6, text = "A RULE is IN FORCE (NONE: none): which was")
    static void p06WhichWas(Case c) {
        sixRules(c);
        c.due("first", c.book.force(0), NONE);
        c.due("the last rule", c.book.force(5), 0);
        c.due("the same again", c.book.force(5), 5);
        c.due("none", c.book.force(NONE), 5);
        c.due("in force", c.book.count(3), NONE);
        c.due("none again", c.book.force(NONE), NONE);
    }

    @Sentence(promise = 6, text = "-2, and nothing happens, if there is none such.")
    static void p06NoneSuch(Case c) {
        c.refused("without rules", -2, () -> c.book.force(0), () -> c.book.force(5), () -> c.book.force(-2));
        c.rule("serve 1");
        c.rule("serve 2");
        c.book.force(1);
        c.refused("beyond", -2, () -> c.book.force(2), () -> c.book.force(6), () -> c.book.force(Case.MOST),
                () -> c.book.force(-2), () -> c.book.force(Case.LEAST));
        c.due("in force", c.book.count(3), 1);
    }

    @Sentence(promise = 6, text = "A RULE is IN FORCE (NONE: none)")
    static void p06ForceIsNoAct(Case c) {
        c.begin(Case.THREE);
        c.rule("serve station");
        c.book.hour();
        c.book.force(0);
        c.due("one act", c.book.count(11), 1);
        c.book.undo();
        c.due("in force still", c.book.count(3), 0);
        c.due("it rules", c.book.hour(), 1);
        c.book.force(NONE);
        c.due("the least", c.book.hour(), 0);
    }
}
