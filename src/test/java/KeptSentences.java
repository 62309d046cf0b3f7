/** Promises 31 to 34: what was kept, what is counted, the ROW. */
final class KeptSentences {
    private KeptSentences() {
    }

    @Of(promise = 31, says = "All that 1. tells of is kept under a number 0 .. 1: true.")
    static void keeping() {
        for (int i = 0; i < 2; i++) {
            Far x = States.some();
            Check.due("keep " + i, x.keep(i), true);
            x.end(0);
            x.doAll("g0g1b0b1b2g2x0x1x2m0c/3m1a/4m2lb0");
            x.letters(1, 0);
            x.again(i);
            Far y = States.some();
            y.end(0);
            y.letters(1, 0);
            x.letters(1, 0);
            Check.due("trees, LOGS, TIMES, HEARD, LETTERS", x.state(), y.state());
        }
        // HEARD of each way, and what was cut, go on as they were kept
        Far x = States.some();
        x.keep(1);
        x.end(0);
        x.doAll("g0g1b0b1b2g2x0x1x2");
        x.again(1);
        Far y = States.some();
        y.end(0);
        for (Far z : new Far[] {x, y}) {
            z.doAll("b0g2x2m2a~0g0x0g1x1m0b/0");
            z.voids(0);
        }
        Check.due("it goes on from there", x.state(), y.state());
        Far cut = new Far();
        cut.keep(1);
        cut.doAll("m0a/0g1g2b1b2g0x0");
        cut.keep(0);
        cut.again(1);
        cut.doAll("m1b/0c10");
        Check.due("what was cut since is gone", cut.count(3), Check.bits(3));
        cut.again(0);
        cut.doAll("m1ba0c10");
        Check.due("what had been cut is there", cut.count(3), Check.bits(2, 3));
    }

    @Of(promise = 31, says = "Refused: others.")
    static void keepingUnderNoNumber() {
        Far x = States.some();
        for (int i : new int[] {-1, 2, 3, Check.LEAST, Check.GREATEST}) {
            Check.due("keep " + i, x.keep(i), false);
            Check.due("nothing is kept", x.again(0) || x.again(1), false);
        }
    }

    @Of(promise = 32, says = "It is as it was kept under a number.")
    static void again() {
        Far x = new Far();
        x.keep(1);
        x.doAll("m0a/0");
        x.keep(0);
        x.doAll("m0b/0g1");
        Check.due("the first", x.again(0), true);
        Check.due("a alone", x.count(3), Check.bits(2));
        Check.due("nothing has come to 1", x.count(4), 0);
        x.doAll("m0c/0");
        Check.due("the first once more", x.again(0), true);
        Check.due("a alone", x.count(3), Check.bits(2));
        Check.due("the second", x.again(1), true);
        Check.due("nothing", x.count(3) + x.count(6) + x.count(9), 0);
        x.doAll("m0d/0");
        Check.due("kept anew", x.keep(0), true);
        x.doAll("m0e/0");
        x.again(0);
        Check.due("d alone", x.count(3), Check.bits(5));
        Check.due("as it is", x.keep(1) && x.again(1), true);
        Check.due("d alone", x.count(3), Check.bits(5));
        // the ROW and THE TEXT are not told of in 1.
        x.letters(0, 1);
        x.sign(0);
        x.again(1);
        Check.row("the ROW stays", x, 1);
        Check.due("THE TEXT stays", x.count(8), 4);
    }

    @Of(promise = 32, says = "Refused: nothing kept.")
    static void againOfNothing() {
        Far x = States.some();
        Check.due("nothing at all", x.again(0) || x.again(1), false);
        x.keep(1);
        Check.due("under the other", x.again(0), false);
        for (int i : new int[] {-1, 2, 3, Check.LEAST, Check.GREATEST}) {
            Check.due("again " + i, x.again(i), false);
        }
        Check.due("under this one", x.again(1), true);
        Far y = States.some();
        y.keep(0);
        Check.due("under the other", y.again(1), false);
    }

    /** LOGS of 3, 3 and 1; LETTERS: 0 to 1 one, 0 to 2 two, 1 to 0 and to 2 two each; ROW of two, TEXT of four. */
    private static Far counted() {
        Far x = new Far("m0a/0m0b/0m0cc0c01c01c02b1m1d/0");
        x.sign(0);
        x.letters(0, 2);
        return x;
    }

    @Of(promise = 33, says = "What 0 .. 2: MOVES in the LOG of COPY 0 .. 2")
    static void movesOfLogs() {
        Far x = counted();
        int[] due = {3, 3, 1};
        for (int copy = 0; copy < 3; copy++) {
            Check.due("COPY " + copy, x.count(copy), due[copy]);
            Check.due("of a new object", new Far().count(copy), 0);
        }
        Far full = States.logsOf(20);
        int[] most = {20, 20, 18};
        for (int copy = 0; copy < 3; copy++) {
            Check.due("COPY " + copy, full.count(copy), most[copy]);
        }
    }

    @Of(promise = 33, says = "3 .. 5: FOLDERS that are there at COPY 0 .. 2 (bits)")
    static void foldersThere() {
        Far x = counted();
        int[] due = {Check.bits(2, 3), Check.bits(2, 3, 5), Check.bits(2)};
        for (int copy = 0; copy < 3; copy++) {
            Check.due("COPY " + copy, x.count(3 + copy), due[copy]);
            Check.due("of a new object", new Far().count(3 + copy), 0);
        }
        Check.due("all twelve", States.flat().count(3), (1 << 14) - 4);
        Check.due("in THE TRASH as well", States.chain('~').count(3), (1 << 14) - 4);
    }

    @Of(promise = 33, says = "6: LETTERS that wait in all")
    static void lettersInAll() {
        Check.due("of four ways", counted().count(6), 1 + 2 + 2 + 2);
        Check.due("of a new object", new Far().count(6), 0);
        Check.due("six on each way", new Far("b0b0b0b0b0b0b1b1b1b1b1b1b2b2b2b2b2b2").count(6), 36);
    }

    @Of(promise = 33, says = "7: numbers of the ROW")
    static void numbersOfTheRow() {
        Far x = counted();
        Check.due("two", x.count(7), 2);
        x.letters(2, 0);
        Check.due("none", x.count(7), 0);
        x.then(0);
        Check.due("twelve", x.count(7), 12);
        Check.due("of a new object", new Far().count(7), 0);
        Far chain = States.chain('~');
        chain.path(0, 13);
        Check.due("25", chain.count(7), 25);
    }

    @Of(promise = 33, says = "8: signs of THE TEXT")
    static void signsOfTheText() {
        Far x = counted();
        Check.due("four", x.count(8), 4);
        for (int i = 2; i <= 20; i++) {
            x.sign(0);
            Check.due("up to 80", x.count(8), 4 * i);
        }
        x.end(1);
        Check.due("one", x.count(8), 1);
        x.day();
        Check.due("none", x.count(8), 0);
        Check.due("of a new object", new Far().count(8), 0);
    }

    @Of(promise = 33, says = "9: the greatest TIME of a COPY")
    static void greatestTime() {
        Far x = new Far();
        Check.due("at first", x.count(9), 0);
        for (int copy = 0; copy < 3; copy++) {
            x.makes(copy, 2, 0, 0);
            Check.due("of COPY " + copy + " alone", x.count(9), copy + 1);
            x.gathers((copy + 1) % 3);
            Check.due("of two", x.count(9), copy + 1);
        }
        x.beats(0);
        Check.due("a BEAT takes none", x.count(9), 3);
    }

    @Of(promise = 33, says = "NONE for another what.")
    static void countOfAnotherWhat() {
        Far x = counted();
        for (int what : new int[] {-1, 10, 11, -2, Check.LEAST, Check.GREATEST}) {
            Check.due("what " + what, x.count(what), Check.NONE);
        }
    }

    @Of(promise = 34, says = "Number i of the ROW.")
    static void numbers() {
        Far x = new Far("b0m0a/0m0b/0m0b/0m0b/0m0b/0");
        x.letters(0, 1);
        for (int i = 0; i < 6; i++) {
            Check.due("number " + i, x.row(i), i);
        }
        x.then(1);
        Check.due("the first", x.row(0), 0);
        Check.due("below 0", x.row(11), -1);
    }

    @Of(promise = 34, says = "NoSuchElementException: none such.")
    static void noSuchNumber() {
        Far x = new Far();
        Check.noSuch("of no ROW", () -> x.row(0));
        x.stable(0);
        for (int i : new int[] {-1, 2, 3, 80, Check.LEAST, Check.GREATEST}) {
            Check.noSuch("number " + i + " of two", () -> x.row(i));
        }
        x.then(0);
        x.voids(0);
        Check.noSuch("what was told once is not there any more", () -> x.row(1));
        x.letters(0, 1);
        Check.noSuch("of an empty ROW", () -> x.row(0));
    }
}
