/** Promises 1, 4 to 10 and 12 to 14: what is done, and what is told of it. */
final class ActsSentences {
    private ActsSentences() {
    }

    @Of(promise = 1, says = "No FOLDERS, no LETTERS.")
    static void newObject() {
        Far x = new Far();
        for (int what = 0; what < 10; what++) {
            Check.due("count(" + what + ")", x.count(what), 0);
        }
        Check.row("no ROW", x);
        for (int copy = 0; copy < 3; copy++) {
            for (int to = 0; to < 3; to++) {
                Check.due("no LETTERS", x.letters(copy, to), copy == to ? Check.NONE : 0);
            }
            Check.due("none waits", x.gathers(copy), -2);
            for (int folder = 2; folder < 14; folder++) {
                int c = copy;
                int f = folder;
                Check.noSuch("no FOLDER " + folder, () -> x.entry(c, f, 0));
            }
        }
        Check.due("no TEXT", x.day(), 0);
        Check.due("nothing kept", x.again(0) || x.again(1), false);
        new Far("m0a/0b0");
        Check.due("one object has nothing of another", new Far().count(6), 0);
    }

    /** At COPY 1 a 4 (1, 1) at THE ROOT, b 9 (2, 1) in it; at COPY 2 as well, and l 0 (3, 2) in THE TRASH, k 0 (4, 2). */
    private static Far withEntries() {
        return new Far("m1a/4m1ba9g2m2l~0m2k~0");
    }

    @Of(promise = 4, says = "Of the ENTRY of a FOLDER at a COPY, what 0: PARENT, 1: NAME, 2: RANK, 3: TIME, "
        + "4: the COPY of its STAMP.")
    static void entries() {
        Far x = withEntries();
        int[][] due = {{1, 2, 0, 4, 0, 1, 1}, {1, 3, 2, 9, 0, 2, 1}, {2, 2, 0, 4, 0, 1, 1}, {2, 3, 2, 9, 0, 2, 1},
            {2, 13, 1, 0, 0, 3, 2}, {2, 12, 1, 0, 1, 4, 2}};
        for (int[] d : due) {
            for (int what = 0; what < 5; what++) {
                Check.due("entry(" + d[0] + ", " + d[1] + ", " + what + ")", x.entry(d[0], d[1], what), d[what + 2]);
            }
        }
    }

    @Of(promise = 4, says = "NoSuchElementException: it is not there")
    static void entryOfWhatIsNotThere() {
        Far x = withEntries();
        Check.noSuch("at no COPY", () -> x.entry(2, 4, 0));
        Check.noSuch("at 1, not at 0", () -> x.entry(0, 2, 0));
        Check.noSuch("at 2, not at 1", () -> x.entry(1, 13, 0));
        x.doAll("m0cc0");
        Check.noSuch("by a VOID one", () -> x.entry(0, 4, 0));
    }

    @Of(promise = 4, says = "none such")
    static void entryOfNoneSuch() {
        Far x = withEntries();
        for (int copy : Check.NO_COPY) {
            Check.noSuch("COPY " + copy, () -> x.entry(copy, 2, 0));
        }
        for (int folder : Check.NO_FOLDER) {
            Check.noSuch("FOLDER " + folder, () -> x.entry(1, folder, 0));
        }
    }

    @Of(promise = 4, says = "another what")
    static void entryOfAnotherWhat() {
        Far x = withEntries();
        for (int what : new int[] {-1, 5, 6, Check.LEAST, Check.GREATEST}) {
            Check.noSuch("what " + what, () -> x.entry(1, 2, what));
            Check.noSuch("what " + what + " of what is not there", () -> x.entry(0, 2, what));
        }
    }

    @Of(promise = 5, says = "Of MOVE i (0, 1, ..) in the LOG of a COPY, what 0: TIME, 1: the COPY that made it, "
        + "2: its FOLDER, 3: PARENT, 4: NAME")
    static void moves() {
        // all of TIME 1, so by COPY
        Far x = new Far("m2l~9m0kk3m1b/0g1");
        int[][] due = {{1, 0, 12, 12, 3}, {1, 1, 3, 0, 0}, {1, 2, 13, 1, 9}};
        for (int i = 0; i < 3; i++) {
            for (int what = 0; what < 5; what++) {
                Check.due("move(1, " + i + ", " + what + ")", x.move(1, i, what), due[i][what]);
            }
        }
        Check.due("at 2 its own", x.move(2, 0, 2), 13);
        Far full = States.logsOf(20);
        Check.due("the first", full.move(0, 0, 0), 1);
        Check.due("the last of 20", full.move(0, 19, 0), 20);
        Far cut = new Far("m0a/0m0b/0g1g2b1b2g0m0c/0x0");
        Check.due("the first that was not cut", cut.move(0, 0, 2), 4);
    }

    @Of(promise = 5, says = "5: 1 if it is VOID, else 0")
    static void voidMoves() {
        Far x = new Far("m0a/0m0aa0m0bl0m0b/0");
        int[] due = {0, 1, 1, 0};
        for (int i = 0; i < due.length; i++) {
            Check.due("MOVE " + i, x.move(0, i, 5), due[i]);
        }
        x.doAll("m1l/0c10");
        // l/0 (1, 1) stands behind (1, 0): b into l is not VOID any more
        int[] then = {0, 0, 1, 0, 0};
        for (int i = 0; i < then.length; i++) {
            Check.due("MOVE " + i + " then", x.move(0, i, 5), then[i]);
        }
        Far full = States.logsOf(19);
        full.doAll("m0aa0");
        Check.due("the last of 20", full.move(0, 19, 5), 1);
        Check.due("the one ahead of it", full.move(0, 18, 5), 0);
    }

    @Of(promise = 5, says = "NoSuchElementException: none such")
    static void noSuchMove() {
        Far x = new Far("m0a/0m0b/0m1c/0c01");
        Check.noSuch("MOVE 2 of two", () -> x.move(0, 2, 0));
        Check.noSuch("MOVE 0 of none", () -> x.move(2, 0, 0));
        for (int i : new int[] {-1, 19, 20, 31, 32, Check.LEAST, Check.GREATEST}) {
            Check.noSuch("MOVE " + i, () -> x.move(0, i, 0));
            Check.noSuch("MOVE " + i + ", VOID or not", () -> x.move(0, i, 5));
        }
        for (int copy : Check.NO_COPY) {
            Check.noSuch("COPY " + copy, () -> x.move(copy, 0, 0));
        }
        Far full = States.logsOf(20);
        Check.noSuch("MOVE 20 of 20", () -> full.move(0, 20, 0));
        Far cut = new Far("m0a/0m0b/0g1g2b1b2g0m0c/0x0");
        Check.noSuch("what was cut is no MOVE of the LOG", () -> cut.move(0, 1, 0));
    }

    @Of(promise = 5, says = "another what")
    static void moveOfAnotherWhat() {
        Far x = new Far("m0a/0");
        for (int what : new int[] {-1, 6, Check.LEAST, Check.GREATEST}) {
            Check.noSuch("what " + what, () -> x.move(0, 0, what));
            Check.noSuch("what " + what + " of none", () -> x.move(1, 0, what));
        }
    }

    @Of(promise = 6, says = "A COPY makes a MOVE: its TIME")
    static void making() {
        Far x = new Far();
        Check.due("the first", x.makes(0, 2, 0, 9), 1);
        Check.due("the next", x.makes(0, 13, 2, 0), 2);
        Check.due("the first of another COPY", x.makes(2, 13, 1, 0), 1);
        Check.due("they are there at 0", x.count(3), Check.bits(2, 13));
        Check.due("not at 1", x.count(4), 0);
        Check.due("one at 2", x.count(5), Check.bits(13));
        Check.due("LETTERS wait", x.count(6), 6);
        x.doAll("c02c02");
        Check.due("behind what came", x.makes(2, 3, 0, 0), 3);
    }

    @Of(promise = 6, says = "the ROW: 1 if it is VOID, else 0")
    static void rowOfMaking() {
        Far x = new Far();
        Check.told("into itself", x, x.makes(0, 2, 2, 0), 1, 1);
        Check.told("to what is not there", x, x.makes(0, 2, 3, 0), 2, 1);
        Check.told("to THE ROOT", x, x.makes(0, 2, 0, 0), 3, 0);
        Check.told("to what is there", x, x.makes(0, 3, 2, 0), 4, 0);
        Check.told("a ring", x, x.makes(0, 2, 3, 0), 5, 1);
        Check.due("VOID ones are in the LOG", x.count(0), 5);
        Check.due("and go as LETTERS", x.letters(0, 1), 5);
        Far full = States.logsOf(19);
        Check.told("the last that a LOG has room for, VOID", full, full.makes(0, 2, 2, 0), 20, 1);
        Far other = States.logsOf(19);
        Check.told("the last that a LOG has room for", other, other.makes(0, 2, 0, 0), 20, 0);
    }

    @Of(promise = 6, says = "-2: its LOG has 20")
    static void makingWithAFullLog() {
        Far x = States.logsOf(19);
        Check.due("19", x.makes(0, 2, 0, 0), 20);
        Check.due("20", x.makes(0, 2, 0, 0), -2);
        Check.due("a VOID one", x.makes(0, 2, 2, 0), -2);
        Check.due("its TIME stays", x.count(9), 20);
        x.doAll("b0b0b0b0");
        Check.due("six wait for 2", x.letters(0, 2), 6);
        Check.due("20, and six wait", x.makes(0, 2, 0, 0), -2);
        x.doAll("g1b1g2b2g0x0");
        Check.due("a cut LOG has room", x.makes(0, 2, 0, 0), 21);
        Check.due("LOG of another COPY may be full", States.logsOf(20).makes(2, 2, 0, 0), 19);
    }

    @Of(promise = 6, says = "-3: 6 LETTERS wait on one of the ways from it")
    static void makingWithAFullWay() {
        for (int maker = 0; maker < 3; maker++) {
            int one = (maker + 1) % 3;
            int other = (maker + 2) % 3;
            for (int open = 0; open < 2; open++) {
                Far x = new Far();
                for (int i = 1; i <= 6; i++) {
                    Check.due("LETTER " + i, x.makes(maker, 2, 0, 0), i);
                }
                Check.due("six on both", x.makes(maker, 2, 0, 0), -3);
                x.gathers(open == 0 ? one : other);
                Check.due("six on one", x.makes(maker, 2, 0, 0), -3);
                Check.due("a VOID one", x.makes(maker, 2, 2, 0), -3);
                Check.due("its LOG stays", x.count(maker), 6);
                x.comes(maker, open == 0 ? other : one);
                Check.due("five on one", x.makes(maker, 2, 0, 0), 7);
            }
        }
        Far y = new Far("b1b1b1b1b1b1b2b2b2b2b2b2");
        Check.due("ways to it may be full", y.makes(0, 2, 0, 0), 1);
    }

    @Of(promise = 6, says = "NONE: others")
    static void makingNone() {
        for (Refused refused : Refused.wrongArguments()) {
            if (refused.name().startsWith("makes")) {
                Far x = refused.state().get();
                Check.due(refused.name(), refused.call().applyAsInt(x), Check.NONE);
                Check.due("nothing is made", x.count(0) + x.count(1) + x.count(2), 5);
                Check.due("nothing is sent", x.count(6), 10);
                Check.due("no TIME passes", x.count(9), 3);
            }
        }
    }

    @Of(promise = 7, says = "A COPY sends a BEAT to the two others: its TIME.")
    static void beating() {
        for (int copy = 0; copy < 3; copy++) {
            Far x = new Far();
            Check.due("the first", x.beats(copy), 0);
            Check.told("to one", x, x.letters(copy, (copy + 1) % 3), 1, 0);
            Check.told("to the other", x, x.letters(copy, (copy + 2) % 3), 1, 0);
            x.makes(copy, 2, 0, 0);
            Check.due("its TIME", x.beats(copy), 1);
            Check.due("which does not pass", x.beats(copy), 1);
            Check.told("they wait", x, x.letters(copy, (copy + 1) % 3), 4, 0, 1, 1, 1);
            Check.due("they are no MOVES", x.count(copy), 1);
        }
        Far full = States.logsOf(20);
        Check.due("with a full LOG", full.beats(0), 20);
        Check.due("TIME by what came", full.beats(2), 18);
    }

    @Of(promise = 7, says = "-3: as makes()")
    static void beatingWithAFullWay() {
        for (int copy = 0; copy < 3; copy++) {
            for (int open = 1; open < 3; open++) {
                Far x = new Far();
                for (int i = 0; i < 6; i++) {
                    Check.due("up to six", x.beats(copy), 0);
                }
                Check.due("six on both", x.beats(copy), -3);
                x.gathers((copy + open) % 3);
                Check.due("six on one", x.beats(copy), -3);
                Check.due("none was sent", x.count(6), 6);
                x.comes(copy, (copy + 3 - open) % 3);
                Check.due("five on one", x.beats(copy), 0);
            }
        }
    }

    @Of(promise = 7, says = "NONE: no such")
    static void beatingNone() {
        Far x = new Far();
        Check.noCopy(x::beats);
        Check.due("none was sent", x.count(6), 0);
    }

    @Of(promise = 8, says = "The next LETTER from a COPY to another one comes")
    static void coming() {
        Far x = new Far("m0a/0m0b/0m1c/0m2d/0");
        x.comes(0, 1);
        Check.due("a has come", x.count(4), Check.bits(2, 4));
        Check.told("b waits", x, x.letters(0, 1), 1, 2);
        Check.due("both wait for 2", x.letters(0, 2), 2);
        Check.due("d waits for 1", x.letters(2, 1), 1);
        x.comes(0, 1);
        Check.due("b has come", x.count(4), Check.bits(2, 3, 4));
        x.comes(2, 1);
        Check.due("d has come", x.count(4), Check.bits(2, 3, 4, 5));
        Check.due("in the LOG by its STAMP", x.move(1, 2, 2), 5);
        x.comes(1, 0);
        Check.due("c has come to 0", x.count(3), Check.bits(2, 3, 4));
    }

    @Of(promise = 8, says = "how many MOVES are UNDONE (by a BEAT 0)")
    static void undoneByWhatComes() {
        Far x = new Far("m0a/0m0b/0b0m1c/0m1ac1m1d~0");
        Check.due("ahead of all", x.comes(0, 1), 3);
        Check.due("behind two", x.comes(0, 1), 2);
        x.doAll("m1e/0");
        Check.due("a BEAT of a lesser TIME", x.comes(0, 1), 0);
        Check.due("of one TIME the lesser COPY stays", x.comes(1, 0), 1);
        Check.due("behind all", x.comes(1, 0), 0);
        Far late = new Far("m2c/0");
        for (int i = 0; i < 3; i++) {
            late.doAll("m0a/0".repeat(6) + "c01".repeat(6) + "c02".repeat(6));
        }
        late.doAll("m0a/0");
        Check.due("all but the first of 19", late.comes(2, 0), 18);
    }

    @Of(promise = 8, says = "the ROW: OTHER of the tree there ahead of it and behind it")
    static void otherByWhatComes() {
        Far x = new Far("m0a/0m0b/0m1c/0m1ac1b1");
        x.comes(0, 1);
        // a/0 (1, 0) comes ahead of a to c (2, 1): a is as it was
        Check.row("nothing is other", x, 0);
        x.comes(0, 1);
        Check.row("b is new", x, Check.bits(3));
        x.comes(1, 0);
        Check.row("c is new", x, Check.bits(4));
        x.comes(1, 0);
        Check.row("a has another ENTRY", x, Check.bits(2));
        x.comes(1, 0);
        Check.row("a BEAT", x, 0);
        // of a ring across COPIES the later one becomes VOID, and what it had done goes
        Far y = new Far("m0a/0m0b/0g1g2m1ab5m0ba5");
        y.comes(0, 1);
        Check.row("both are other", y, Check.bits(2, 3));
        Check.due("a is as it was ahead of it", y.entry(1, 2, 3), 1);
        y.comes(1, 0);
        Check.row("a VOID one", y, 0);
    }

    @Of(promise = 8, says = "-2: none waits")
    static void noneComes() {
        Far x = new Far("m0a/0");
        Check.due("back", x.comes(1, 0), -2);
        Check.due("between others", x.comes(1, 2), -2);
        x.comes(0, 1);
        Check.due("no more", x.comes(0, 1), -2);
        Check.due("one waits for 2", x.comes(0, 2), 0);
        Check.due("to a full LOG", States.logsOf(20).comes(1, 0), -2);
    }

    @Of(promise = 8, says = "-3: it has a MOVE, and the LOG there has 20")
    static void comingToAFullLog() {
        Far x = States.logsOf(20);
        x.doAll("b2m2b/0");
        Check.due("a BEAT comes", x.comes(2, 1), 0);
        Check.due("a MOVE does not", x.comes(2, 1), -3);
        Check.due("nor a second time", x.comes(2, 1), -3);
        Check.due("it waits", x.letters(2, 1), 1);
        Check.due("what it would have told is not heard", x.stable(1), 18);
        Check.due("the 20th comes", x.comes(0, 2), 1);
        Check.due("20", x.count(2), 20);
        Check.due("the 21st does not", x.comes(0, 2), -3);
        x.doAll("b0c01c20x1");
        Check.due("a cut LOG has room", x.comes(2, 1), 1);
        Far y = States.logsOf(20);
        y.doAll("m2bb0");
        Check.due("a VOID one does not come either", y.comes(2, 1), -3);
    }

    @Of(promise = 8, says = "NONE: others")
    static void comingNone() {
        Far x = new Far("b0b1b2");
        Check.noTwoCopies(x::comes);
        Check.due("all wait", x.count(6), 6);
    }

    @Of(promise = 9, says = "All LETTERS that wait for a COPY come at once: how many")
    static void gathering() {
        Far x = new Far("m0a/0m1b/0m0ca0m2db0m2e/0b1");
        Check.due("four", x.gathers(2), 4);
        Check.due("five MOVES", x.count(2), 5);
        Check.due("none waits any more", x.letters(0, 2) + x.letters(1, 2), 0);
        Check.due("others wait", x.count(6), 8);
        Check.told("TIME, and what was heard", x, x.stable(2), 1, 2, 3);
        Check.due("as many for 1", x.gathers(1), 4);
        Far y = new Far("b0b0b0b0b0b0b1b1b1b1b1b1");
        Check.due("twelve", y.gathers(2), 12);
        Far full = States.logsOf(18);
        full.doAll("b1b0c02c01b1b0");
        Check.due("BEATS alone", full.gathers(2), 3);
    }

    @Of(promise = 9, says = "the ROW: how many MOVES are UNDONE "
        + "(those of the LOG as it was with a greater STAMP than the least of those that come)")
    static void undoneByGathering() {
        Far x = new Far("m0a/0m0b/0m1c/0b2g1");
        x.doAll("b0b2");
        x.gathers(1);
        Check.due("BEATS alone", x.row(0), 0);
        x.doAll("m2a~0m0d/0m1e/0");
        // LOG of 1 is (1, 0), (1, 1), (2, 0), (3, 1); (1, 2) and (3, 0) come
        x.gathers(1);
        Check.due("by the least of both ways", x.row(0), 2);
        for (int copy = 0; copy < 3; copy++) {
            Far y = new Far("m0a/0m1b/0m2c/0");
            y.gathers(copy);
            Check.due("of one TIME the greater COPY", y.row(0), copy == 0 ? 0 : 1);
        }
        Far v = new Far("m0a/0m2b/0m2bb0");
        v.gathers(2);
        Check.due("a VOID one is counted", v.row(0), 2);
        // the BEAT of 1 has TIME 0; (2, 0) comes to (1, 0), (2, 2)
        Far z = new Far("m0a/0c02m2b/0b1m0c/0");
        z.gathers(2);
        Check.due("by the least MOVE, not by a BEAT", z.row(0), 1);
        Far w = new Far("m0a/0m0a/0m0a/0m2b/0m2c/0");
        w.gathers(0);
        Check.due("what comes is not counted itself", w.row(0), 2);
        Far empty = new Far("m0a/0m1a/0");
        empty.gathers(2);
        Check.due("of an empty LOG", empty.row(0), 0);
    }

    @Of(promise = 9, says = "OTHER of the tree there ahead of it and behind it")
    static void otherByGathering() {
        Far x = new Far("m0a/0m1b/0m0ca0m2db0m2e/0b1");
        x.gathers(2);
        // d to b was VOID, as b was not there
        Check.row("e stays", x, 2, Check.bits(2, 3, 4, 5));
        x.doAll("b0b1");
        x.gathers(2);
        Check.row("BEATS alone", x, 0, 0);
        x.doAll("m0aa0");
        x.gathers(2);
        Check.row("a VOID one", x, 0, 0);
        x.doAll("m0a/1m0a/0");
        x.gathers(2);
        Check.row("another STAMP alone", x, 0, Check.bits(2));
    }

    @Of(promise = 9, says = "-2: none waits")
    static void noneToGather() {
        Far x = new Far("b0");
        Check.due("for 0", x.gathers(0), -2);
        Check.due("for 1", x.gathers(1), 1);
        Check.due("for 1 any more", x.gathers(1), -2);
        Check.due("with a full LOG", States.logsOf(20).gathers(0), -2);
    }

    @Of(promise = 9, says = "-3: the LOG there would have more than 20")
    static void gatheringToAFullLog() {
        Far x = States.logsOf(20);
        x.doAll("b0");
        Check.due("18 and 2", x.gathers(2), 3);
        Check.due("20", x.count(2), 20);
        x.doAll("b0b1");
        Check.due("20 and BEATS", x.gathers(2), 2);
        Far y = States.logsOf(20);
        y.doAll("m2b/0b0");
        Check.due("19 and 2", y.gathers(2), -3);
        Check.due("none has come", y.letters(0, 2), 3);
        Check.due("19", y.count(2), 19);
        Check.due("the first may come", y.comes(0, 2), 1);
        Check.due("20 and 1", y.gathers(2), -3);
        Far fits = States.logsOf(18);
        fits.doAll("m0a/0m1b/0");
        Check.due("18 and 1 and 1", fits.gathers(2), 2);
        Far z = States.logsOf(18);
        z.doAll("m0a/0m1b/0m1b/0");
        Check.due("18 and 1 and 2", z.gathers(2), -3);
        z.doAll("c12");
        Check.due("19 and 1 and 1", z.gathers(2), -3);
    }

    @Of(promise = 9, says = "NONE: no such")
    static void gatheringNone() {
        Far x = new Far("b0b1b2");
        Check.noCopy(x::gathers);
        Check.due("all wait", x.count(6), 6);
    }

    @Of(promise = 10, says = "LOG of a COPY is cut: how many MOVES leave it.")
    static void cutting() {
        Far x = new Far("m0a/0m0b/0m0c/0g1m1d/0g2b2");
        Check.due("0 has not heard of 1 and 2", x.cuts(0), 0);
        Check.due("those of TIME at most 3", x.cuts(2), 3);
        Check.due("one stays", x.count(2), 1);
        Check.due("no more", x.cuts(2), 0);
        Check.due("all are there", x.count(5), Check.bits(2, 3, 4, 5));
        Check.due("0 has all in its LOG", x.count(0), 3);
        x.doAll("c10c20");
        Check.due("TIME as STABLE, too", x.cuts(0), 4);
        Check.due("an empty LOG", x.count(0), 0);
        Check.due("of an empty LOG", x.cuts(0), 0);
        Far full = States.logsOf(20);
        full.doAll("g2b1b2g0");
        Check.due("all 20", full.cuts(0), 20);
        Check.due("an empty LOG", full.count(0), 0);
        Check.due("a is there", full.entry(0, 2, 3), 20);
        Check.due("of a new object", new Far().cuts(0), 0);
        // VOID ones are cut as well, and are numbered anew
        Far y = new Far("m0aa0m0a/0g1g2b1b2g0m0bb0");
        Check.due("one of them VOID", y.cuts(0), 2);
        Check.due("the VOID one that is left", y.voids(0), Check.bits(0));
    }

    @Of(promise = 10, says = "NONE: no such")
    static void cuttingNone() {
        Far x = new Far("m0a/0g1g2b1b2g0");
        Check.noCopy(x::cuts);
        Check.due("none was cut", x.count(0) + x.count(1) + x.count(2), 3);
    }

    @Of(promise = 12, says = "LETTERS that wait from a COPY to another one: how many")
    static void letters() {
        Far x = new Far("m0a/0b0m0a/1m0a/2b0m0a/3");
        Check.due("six", x.letters(0, 1), 6);
        Check.due("none back", x.letters(1, 0), 0);
        x.doAll("c01c01");
        Check.due("four", x.letters(0, 1), 4);
        Check.due("six to 2", x.letters(0, 2), 6);
        x.doAll("g1");
        Check.due("none", x.letters(0, 1), 0);
    }

    @Of(promise = 12, says = "the ROW: TIME of each, the next first")
    static void timesOfLetters() {
        Far x = new Far("b0m0a/0b0m0a/1m0a/2b0");
        Check.told("six", x, x.letters(0, 1), 6, 0, 1, 1, 2, 3, 3);
        x.doAll("c01c01");
        Check.told("four", x, x.letters(0, 1), 4, 1, 2, 3, 3);
        Check.told("six to 2", x, x.letters(0, 2), 6, 0, 1, 1, 2, 3, 3);
        Check.told("none", x, x.letters(1, 0), 0);
    }

    @Of(promise = 12, says = "NONE: others")
    static void lettersOfNone() {
        Check.noTwoCopies(new Far("b0b1b2")::letters);
    }

    @Of(promise = 13, says = "STABLE of a COPY: it")
    static void stable() {
        Far x = new Far("m0a/0m0b/0m1c/0");
        Check.due("at first", x.stable(2), 0);
        x.doAll("c02c02");
        Check.due("2 and 0", x.stable(2), 0);
        x.doAll("c12");
        Check.due("2 and 1", x.stable(2), 1);
        x.doAll("g1b1c12");
        Check.due("2 and 2", x.stable(2), 2);
        Check.due("of 0", x.stable(0), 0);
    }

    @Of(promise = 13, says = "the ROW: its TIME, how many MOVES cuts() would cut")
    static void rowOfStable() {
        Far x = new Far();
        x.stable(1);
        Check.row("at first", x, 0, 0);
        x.doAll("m0a/0m0b/0m0c/0m1d/0c02c02c12");
        x.stable(2);
        Check.row("TIME 2, (1, 0) and (1, 1)", x, 2, 2);
        Check.due("as cuts()", x.cuts(2), 2);
        x.stable(2);
        Check.row("they are cut", x, 2, 0);
        Far full = States.logsOf(20);
        full.doAll("g2b1b2g0");
        Check.told("all 20", full, full.stable(0), 20, 20, 20);
    }

    @Of(promise = 13, says = "NONE: no such")
    static void stableOfNone() {
        Check.noCopy(new Far("m0a/0")::stable);
    }

    @Of(promise = 14, says = "MOVES in the LOG of a COPY that are VOID (bits): they")
    static void voids() {
        Far x = new Far();
        Check.due("of none", x.voids(1), 0);
        x.doAll("m1bc0m1c/0m1cc0m1bc0m1cb0");
        Check.due("three", x.voids(1), Check.bits(0, 2, 4));
        Check.due("at another COPY", x.voids(0), 0);
        x.doAll("m0c/0c01");
        // c/0 (1, 0) stands ahead of all: the first of them is not VOID any more
        Check.due("they are numbered anew", x.voids(1), Check.bits(3, 5));
    }

    @Of(promise = 14, says = "the ROW: how many")
    static void howManyVoids() {
        Far x = new Far();
        x.voids(1);
        Check.row("none", x, 0);
        for (int i = 0; i < 3; i++) {
            x.doAll("m0aa0m0aa0m0aa0m0aa0m0aa0m0aa0g1g2");
        }
        x.doAll("m0aa0m0aa0");
        Check.told("all 20", x, x.voids(0), (1 << 20) - 1, 20);
        x.doAll("g1g2b1b2g0x0");
        Check.told("cut", x, x.voids(0), 0, 0);
    }

    @Of(promise = 14, says = "NONE: no such")
    static void voidsOfNone() {
        Check.noCopy(new Far("m0aa0")::voids);
    }
}
