import java.util.ArrayList;
import java.util.List;
import java.util.function.Consumer;

/** What stands ahead of promise 1: how long an object is used, and the Terms. */
final class TermsSentences {
    private TermsSentences() {
    }

    @Of(promise = 0, says = "An object is used for at most 512 calls after it has been made; what later calls answer is free.")
    static void the512thCallIsAnswered() {
        Far x = new Far();
        int time = 0;
        while (x.calls() + 12 < Far.MOST_CALLS) {
            time = x.makes(0, 2, 0, 0);
            x.gathers(1);
            x.gathers(2);
            x.beats(1);
            x.beats(2);
            x.gathers(0);
            x.cuts(0);
            x.cuts(1);
            x.gathers(1);
            x.cuts(1);
            x.gathers(2);
            x.cuts(2);
        }
        while (x.calls() + 1 < Far.MOST_CALLS) {
            Check.due("the greatest TIME", x.count(9), time);
        }
        Check.due("the 512th", x.entry(2, 2, 3), time);
    }

    @Of(promise = 0, says = "NODES 0 .. 13: 0 THE ROOT, 1 THE TRASH, 2 .. 13 FOLDERS.")
    static void nodes() {
        Far x = new Far();
        for (int node = 0; node < 14; node++) {
            Check.due("NODE " + node, x.below(0, node), node < 2 ? 0 : -2);
            Check.due("FOLDER " + node, x.places(0, node), node < 2 ? Check.NONE : 3);
        }
        Check.due("no NODE -1", x.below(0, -1), Check.NONE);
        Check.due("no NODE 14", x.below(0, 14), Check.NONE);
        Check.told("THE ROOT", x, x.depth(0, 0), 0, 0);
        Check.told("THE TRASH", x, x.depth(0, 1), 0, 1);
        Check.due("no FOLDER 1", x.makes(0, 1, 0, 0), Check.NONE);
        Check.due("the first FOLDER", x.makes(0, 2, 0, 0), 1);
        Check.due("the last FOLDER", x.makes(0, 13, 2, 0), 2);
        Check.due("no FOLDER 14", x.makes(0, 14, 0, 0), Check.NONE);
        Check.due("into the last FOLDER", x.makes(0, 3, 13, 0), 3);
        Check.due("no PARENT 14", x.makes(0, 3, 14, 0), Check.NONE);
        Check.due("no PARENT -1", x.makes(0, 3, -1, 0), Check.NONE);
        Check.due("they are there", x.count(3), Check.bits(2, 3, 13));
    }

    @Of(promise = 0, says = "NAMES 0 .. 9.")
    static void names() {
        Far x = new Far();
        Check.due("no NAME -1", x.makes(0, 2, 0, -1), Check.NONE);
        Check.due("no NAME 10", x.makes(0, 2, 0, 10), Check.NONE);
        Check.due("the first NAME", x.makes(0, 2, 0, 0), 1);
        Check.due("it is 0", x.entry(0, 2, 1), 0);
        Check.due("the last NAME", x.makes(0, 2, 0, 9), 2);
        Check.due("it is 9", x.entry(0, 2, 1), 9);
    }

    @Of(promise = 0, says = "COPIES 0, 1, 2: each has its own tree, LOG, TIME (at first 0).")
    static void copies() {
        Far x = new Far();
        for (int copy = 0; copy < 3; copy++) {
            Check.told("at first", x, x.stable(copy), 0, 0, 0);
            Check.due("a BEAT at first", x.beats(copy), 0);
        }
        Check.due("no COPY -1", x.beats(-1), Check.NONE);
        Check.due("no COPY 3", x.beats(3), Check.NONE);
        x.doAll("m0a/0m0b/0m0c/0m2d/0m2e/0");
        int[] folders = {Check.bits(2, 3, 4), 0, Check.bits(5, 6)};
        int[] moves = {3, 0, 2};
        for (int copy = 0; copy < 3; copy++) {
            Check.due("its own tree", x.count(3 + copy), folders[copy]);
            Check.due("its own LOG", x.count(copy), moves[copy]);
            Check.told("its own TIME", x, x.stable(copy), 0, moves[copy], 0);
        }
    }

    @Of(promise = 0, says = "A MOVE: a FOLDER, a PARENT (a NODE), a NAME, and its STAMP: a TIME, 1 on, and the COPY that made it.")
    static void moves() {
        for (int copy = 0; copy < 3; copy++) {
            Far x = new Far();
            Check.due("the first TIME", x.makes(copy, 13, 1, 9), 1);
            int[] due = {1, copy, 13, 1, 9, 0};
            for (int what = 0; what < due.length; what++) {
                Check.due("what " + what, x.move(copy, 0, what), due[what]);
            }
        }
    }

    @Of(promise = 0, says = "STAMPS are in order by TIME, of one TIME by COPY.")
    static void orderOfStamps() {
        Far x = new Far("m2a/0m2a/1m1b/0m1b/1m0c/0m0c/1g0g1g2");
        int[][] due = {{1, 0}, {1, 1}, {1, 2}, {2, 0}, {2, 1}, {2, 2}};
        for (int copy = 0; copy < 3; copy++) {
            for (int i = 0; i < due.length; i++) {
                Check.due("TIME of MOVE " + i, x.move(copy, i, 0), due[i][0]);
                Check.due("COPY of MOVE " + i, x.move(copy, i, 1), due[i][1]);
            }
        }
    }

    @Of(promise = 0, says = "A COPY that makes a MOVE has TIME 1 more, which is that of the STAMP")
    static void timeOfMaking() {
        Far x = new Far("m0a/0m0a/0m0a/0g1");
        Check.due("behind what came", x.makes(1, 3, 0, 0), 4);
        Check.due("of the STAMP", x.move(1, 3, 0), 4);
        Check.due("of the ENTRY", x.entry(1, 3, 3), 4);
        x.stable(1);
        Check.due("its TIME", x.row(0), 4);
        Check.due("a VOID one has TIME, too", x.makes(1, 3, 3, 0), 5);
        x.stable(1);
        Check.due("its TIME", x.row(0), 5);
        Check.due("the others have none of it", x.makes(0, 3, 0, 0), 4);
        Check.due("the first one there", x.makes(2, 3, 0, 0), 1);
    }

    @Of(promise = 0, says = "a LETTER with it goes to each of the two other COPIES.")
    static void lettersToBoth() {
        for (int maker = 0; maker < 3; maker++) {
            Far x = new Far();
            x.makes(maker, 2, 2, 0);
            x.makes(maker, 2, 0, 0);
            for (int from = 0; from < 3; from++) {
                for (int to = 0; to < 3; to++) {
                    int due = from == to ? Check.NONE : from == maker ? 2 : 0;
                    Check.due("from " + from + " to " + to, x.letters(from, to), due);
                }
            }
            int one = (maker + 1) % 3;
            int other = (maker + 2) % 3;
            Check.due("one has both", x.comes(maker, one) + x.comes(maker, one) + x.count(one), 2);
            Check.due("the other has both", x.comes(maker, other) + x.comes(maker, other) + x.count(other), 2);
        }
    }

    @Of(promise = 0, says = "A BEAT is a LETTER without a MOVE, with TIME of the COPY that sends it.")
    static void beatsAreLetters() {
        Far x = new Far("b0m0a/0m0b/0b0");
        Check.told("they wait", x, x.letters(0, 1), 4, 0, 1, 2, 2);
        x.doAll("c01");
        Check.due("no MOVE comes", x.count(1), 0);
        x.doAll("c01c01c01");
        Check.due("two MOVES have come", x.count(1), 2);
        x.beats(1);
        x.letters(1, 0);
        Check.row("TIME by what came", x, 2);
    }

    @Of(promise = 0, says = "LETTERS from one COPY to another come in the order in which they were sent")
    static void orderOfLetters() {
        Far x = new Far("m0a/0b0m0b/0m0c/0");
        int[] there = {Check.bits(2), Check.bits(2), Check.bits(2, 3), Check.bits(2, 3, 4)};
        int[] heard = {1, 1, 2, 3};
        for (int i = 0; i < there.length; i++) {
            x.comes(0, 2);
            Check.due("there", x.count(5), there[i]);
            x.stable(2);
            Check.due("TIME", x.row(0), heard[i]);
        }
    }

    @Of(promise = 0, says = "at most 6 wait on one such way.")
    static void sixOnAWay() {
        for (int from = 0; from < 3; from++) {
            Far x = new Far();
            for (int i = 1; i <= 6; i++) {
                Check.due("LETTER " + i, i % 2 == 0 ? x.beats(from) : x.makes(from, 2, 0, 0), (i + 1) / 2);
            }
            Check.due("a seventh BEAT", x.beats(from), -3);
            Check.due("a seventh MOVE", x.makes(from, 2, 0, 0), -3);
            Check.due("six wait", x.letters(from, (from + 1) % 3), 6);
            Check.due("six wait", x.letters(from, (from + 2) % 3), 6);
            for (int other = 0; other < 3; other++) {
                Check.due("other ways have room", other == from || x.beats(other) == 0, true);
            }
        }
    }

    @Of(promise = 0, says = "When one comes, TIME of the COPY it comes to is TIME of the LETTER, if that is more")
    static void timeByLetters() {
        Far x = new Far("m0a/0m0a/0m0a/0m1b/0m1b/0");
        long[] due = {2, 2, 3};
        for (long time : due) {
            x.comes(0, 1);
            x.stable(1);
            Check.due("less, as much, more", x.row(0), time);
        }
        x.doAll("b0m1b/0m1b/0c01");
        x.stable(1);
        Check.due("a BEAT of less", x.row(0), 5);
        Far y = new Far("m0a/0m0a/0c01c01b1c12");
        y.stable(2);
        Check.due("a BEAT of more", y.row(0), 2);
        y.doAll("m2b/0m2b/0g2");
        y.stable(2);
        Check.due("all at once, less", y.row(0), 4);
        y.doAll("g0");
        y.stable(0);
        Check.due("all at once, more", y.row(0), 4);
    }

    @Of(promise = 0, says = "and HEARD of the COPY it came from is TIME of the LETTER (at first 0).")
    static void heard() {
        Far x = new Far("m0a/0m0a/0m1b/0m1b/0m1b/0");
        Check.due("at first", x.stable(2), 0);
        x.comes(0, 2);
        Check.due("of the other still 0", x.stable(2), 0);
        x.comes(1, 2);
        Check.due("both 1", x.stable(2), 1);
        x.comes(1, 2);
        Check.due("1 and 2", x.stable(2), 1);
        x.comes(0, 2);
        Check.due("2 and 2", x.stable(2), 2);
        x.doAll("b0b1");
        Check.due("by gathers() the last of each way", x.gathers(2), 3);
        Check.due("2 and 3", x.stable(2), 2);
        x.doAll("m0a/0");
        x.comes(0, 2);
        Check.due("3 and 3", x.stable(2), 3);
    }

    @Of(promise = 0, says = "THE TREE of a COPY, by the MOVES it has, in the order of their STAMPS, one by one "
        + "(at first no FOLDER is there)")
    static void treesByStamps() {
        Far x = new Far();
        for (int copy = 0; copy < 3; copy++) {
            Check.due("at first", x.count(3 + copy), 0);
            Check.told("at first", x, x.below(copy, 0), 0, 0);
            Check.told("at first", x, x.below(copy, 1), 0, 0);
        }
        // b to a (3, 0) is done ahead of a to b (3, 1), in whatever order they come
        x.doAll("m0a/0g1g2m0b/0", "c01m1ab0m0ba0");
        Check.due("two ways to 2", x.letters(0, 2) + x.letters(1, 2), 3);
        String[] orders = {"c02c02c12", "c02c12c02", "c12c02c02", "g2"};
        for (String order : orders) {
            Check.due("kept", x.keep(0), true);
            x.doAll(order);
            Check.due(order + ": a", x.entry(2, 2, 0), 0);
            Check.due(order + ": b", x.entry(2, 3, 0), 2);
            x.again(0);
        }
    }

    @Of(promise = 0, says = "a MOVE is VOID, if its PARENT is its FOLDER")
    static void voidIntoItself() {
        Far x = new Far();
        for (int folder = 2; folder < 8; folder++) {
            x.makes(0, folder, folder, 0);
            Check.row("not there, into itself", x, 1);
        }
        Check.due("none is there", x.count(3), 0);
        x.doAll("g1g2m0a/0");
        x.makes(0, 2, 2, 5);
        Check.row("there, into itself", x, 1);
        Check.due("its NAME stays", x.entry(0, 2, 1), 0);
    }

    @Of(promise = 0, says = "or lies below that (at any depth)")
    static void voidRings() {
        Far x = States.chain('/');
        x.doAll("g1g2");
        x.makes(0, 12, 13, 0);
        Check.row("one below", x, 1);
        x.makes(0, 2, 3, 0);
        Check.row("the first to the second", x, 1);
        x.makes(0, 2, 13, 0);
        Check.row("eleven below", x, 1);
        x.makes(0, 13, 2, 0);
        Check.row("up is no ring", x, 0);
        x.makes(0, 2, 13, 0);
        Check.row("one below now", x, 1);
        x.makes(0, 2, 1, 0);
        Check.row("with all below it", x, 0);
        Check.told("all lie there", x, x.below(0, 1), Check.bits(2), 12);
    }

    @Of(promise = 0, says = "or is a FOLDER that is not there")
    static void voidToWhatIsNotThere() {
        Far x = new Far();
        x.makes(0, 2, 3, 0);
        Check.row("b is not there", x, 1);
        x.makes(0, 3, 13, 0);
        Check.row("l is not there", x, 1);
        x.makes(0, 3, 1, 0);
        Check.row("THE TRASH always is", x, 0);
        x.makes(0, 2, 3, 0);
        Check.row("what lies in THE TRASH is there", x, 0);
        x.doAll("g1");
        x.makes(1, 4, 2, 0);
        Check.row("it is there at 1", x, 0);
        x.makes(2, 4, 2, 0);
        Check.row("it is not there at 2", x, 1);
    }

    @Of(promise = 0, says = "else its FOLDER is there from then on, and its ENTRY is PARENT, NAME and STAMP of the MOVE.")
    static void entriesByMoves() {
        Far x = new Far("m0a/3m0aa4");
        int[] first = {0, 3, 0, 1, 0};
        for (int what = 0; what < 5; what++) {
            Check.due("a VOID one leaves the ENTRY", x.entry(0, 2, what), first[what]);
        }
        x.doAll("m0a~3");
        int[] third = {1, 3, 0, 3, 0};
        for (int what = 0; what < 5; what++) {
            Check.due("the next one", x.entry(0, 2, what), third[what]);
        }
        x.doAll("m0a~3");
        Check.due("the same again has another STAMP", x.entry(0, 2, 3), 4);
        x.doAll("g1m1a/0c10");
        Check.due("of another COPY", x.entry(0, 2, 4), 1);
        Check.due("it is there still", x.count(3), Check.bits(2));
    }

    @Of(promise = 0, says = "RANK of a FOLDER: how many others with its PARENT and its NAME have a lesser STAMP in their ENTRY.")
    static void ranks() {
        Far x = States.flat();
        for (int folder = 2; folder < 14; folder++) {
            Check.due("RANK 0 to 11: " + folder, x.entry(0, folder, 2), 13 - folder);
        }
        x.doAll("g1g2m0l/3m0k/4m0j~3m0ia3");
        int[][] due = {{13, 8}, {12, 0}, {11, 0}, {10, 0}, {2, 7}, {9, 0}, {8, 1}};
        for (int[] d : due) {
            Check.due("last, another NAME, another PARENT: " + d[0], x.entry(0, d[0], 2), d[1]);
        }
        Far y = new Far("m2a/1m1b/1m0c/1g0");
        int[] ofOneTime = {2, 1, 0};
        for (int i = 0; i < 3; i++) {
            Check.due("of one TIME by COPY", y.entry(0, 2 + i, 2), ofOneTime[i]);
        }
    }

    @Of(promise = 0, says = "STABLE of a COPY: the lesser HEARD of the two others.")
    static void stable() {
        for (int copy = 0; copy < 3; copy++) {
            int one = (copy + 1) % 3;
            int other = (copy + 2) % 3;
            Far x = new Far();
            x.makes(copy, 2, 0, 0);
            x.makes(one, 2, 0, 0);
            x.makes(one, 2, 0, 0);
            x.gathers(copy);
            Check.due("2 and 0", x.stable(copy), 0);
            for (int i = 0; i < 3; i++) {
                x.makes(other, 2, 0, 0);
            }
            x.comes(other, copy);
            Check.due("2 and 1", x.stable(copy), 1);
            x.comes(other, copy);
            Check.due("2 and 2", x.stable(copy), 2);
            x.comes(other, copy);
            Check.due("2 and 3, whatever its own", x.stable(copy), 2);
        }
    }

    @Of(promise = 0, says = "LOG of a COPY: those of its MOVES that were not cut, in the order of STAMPS")
    static void logs() {
        Far x = new Far("m0a/0m0b/0m0cc0c01m1d/0m1e/0g0");
        int[] folders = {2, 3, 5, 4, 6};
        for (int i = 0; i < folders.length; i++) {
            Check.due("MOVE " + i, x.move(0, i, 2), folders[i]);
        }
        Check.due("STABLE is 0: none is cut", x.cuts(0), 0);
        Check.due("all are left", x.count(0), 5);
        x.doAll("c12b2g0x0");
        int[] left = {4, 6};
        Check.due("what was not cut", x.count(0), left.length);
        for (int i = 0; i < left.length; i++) {
            Check.due("MOVE " + i, x.move(0, i, 2), left[i]);
        }
    }

    @Of(promise = 0, says = "at most 20.")
    static void twentyInALog() {
        Far x = States.logsOf(19);
        Check.due("the 20th is made", x.makes(0, 2, 0, 0), 20);
        Check.due("20", x.count(0), 20);
        x.doAll("c01c02b0b0");
        Check.due("no 21st is made", x.makes(0, 2, 0, 0), -2);
        Check.due("20", x.count(0), 20);
        Check.due("the 20th has come", x.count(1), 20);
        Check.due("the 19th has come", x.count(2), 19);
        Check.due("the 20th is gathered", x.gathers(2), 3);
        Check.due("20", x.count(2), 20);
        Far y = States.logsOf(20);
        y.doAll("m2b/0m2b/0");
        Check.due("no 21st comes", y.comes(2, 1), -3);
        Check.due("no 21st is gathered", y.gathers(2), -3);
        Check.due("20", y.count(2), 20);
    }

    @Of(promise = 0, says = "To cut: all MOVES with TIME at most STABLE leave the LOG")
    static void cutting() {
        // at 2: (1, 0), (1, 1), (2, 0), (2, 1), (3, 0), (4, 2)
        Far x = new Far("m0a/0m0b/0m0c/0m1d/0m1e/0c02c12c02c12c02m2f/0");
        Check.due("STABLE", x.stable(2), 2);
        Check.due("all with TIME 1 and 2", x.cuts(2), 4);
        Check.due("TIME 3 stays", x.move(2, 0, 0), 3);
        Check.due("its own stays as well", x.move(2, 1, 1), 2);
        Check.due("none is left to cut", x.cuts(2), 0);
        Far y = new Far("m0a/0b1g2");
        Check.due("STABLE 0 cuts none", y.cuts(2), 0);
        Check.due("it is there", y.count(2), 1);
    }

    /** A drawn run with cuts, and the same without: the trees are one, and as many are UNDONE. */
    @Of(promise = 0, says = "they stay as if they were there (none can come any more that would stand ahead of one of them).")
    static void whatWasCutStays() {
        int left = 0;
        for (int seed = 1; seed <= 40; seed++) {
            Far cut = new Far();
            Far whole = new Far();
            Draws draws = new Draws(seed);
            for (int i = 0; i < 100; i++) {
                int kind = draws.next(4);
                int one = draws.next(3);
                int other = draws.next(3);
                int folder = 2 + draws.next(5);
                int parent = draws.next(7);
                if (kind == 0 && whole.count(one) < 20 && whole.count(6) < 20) {
                    Check.due("made", cut.makes(one, folder, parent, 0), whole.makes(one, folder, parent, 0));
                } else if (kind == 1) {
                    Check.due("sent", cut.beats(one), whole.beats(one));
                } else if (whole.count(other) < 20) {
                    Check.due("UNDONE", cut.comes(one, other), whole.comes(one, other));
                    left += Math.max(cut.cuts(other), 0);
                }
            }
            for (int copy = 0; copy < 3; copy++) {
                Check.due("how many come", cut.then(copy), whole.then(copy));
                for (int i = 0; i < 12; i++) {
                    Check.due("PARENT of " + (i + 2), cut.row(i), whole.row(i));
                }
            }
        }
        Check.due("some were cut: " + left, left > 100, true);
    }

    @Of(promise = 0, says = "UNDONE by a MOVE that comes: MOVES of the LOG with a greater STAMP.")
    static void undone() {
        Far x = new Far("m1a/0m1aa0m0b/0m2c/0");
        Check.due("of one TIME and a greater COPY, and a VOID one", x.comes(0, 1), 2);
        Check.due("of one TIME and a lesser COPY not", x.comes(2, 1), 1);
        Check.due("all lesser", x.comes(1, 0), 0);
        Check.due("the last place", x.comes(1, 0), 0);
        Check.due("of two between", x.comes(2, 0), 1);
        // (1, 0) is cut, (2, 2) comes between (2, 0) and (3, 1)
        Far y = new Far("m0a/0m0b/0c01c01c02b2c21");
        Check.due("cut", y.cuts(1), 1);
        y.doAll("m1c/0m2d/0");
        Check.due("one of what is left", y.comes(2, 1), 1);
    }

    @Of(promise = 0, says = "OTHER of two trees: the set of FOLDERS that are there in one of them alone, "
        + "or with another ENTRY (its STAMP, too).")
    static void otherOfTwoTrees() {
        Far x = new Far("m0a/0m0b/0m0c/0m0d/0g1g2");
        Check.told("one tree", x, x.apart(0, 1), 0, 0);
        x.doAll("m0e/0");
        Check.told("there in one alone", x, x.apart(0, 1), 1, Check.bits(6));
        Check.told("there in the other alone", x, x.apart(1, 0), 1, Check.bits(6));
        x.doAll("m0a~0");
        Check.told("another PARENT", x, x.apart(0, 1), 2, Check.bits(2, 6));
        x.doAll("m0b/1");
        Check.told("another NAME", x, x.apart(0, 1), 3, Check.bits(2, 3, 6));
        x.doAll("m0c/0");
        Check.told("another STAMP", x, x.apart(0, 1), 4, Check.bits(2, 3, 4, 6));
        x.doAll("m0dd0");
        Check.told("a VOID one", x, x.apart(0, 1), 4, Check.bits(2, 3, 4, 6));
        Far y = new Far("m0a/0m1a/0");
        Check.told("a STAMP of another COPY", y, y.apart(0, 1), 1, Check.bits(2));
    }

    @Of(promise = 0, says = "ROW: numbers told last by a call that says so.")
    static void theRowIsToldLast() {
        Far x = States.some();
        Check.row("of letters()", x, 1, 2, 2);
        List<Consumer<Far>> silent = new ArrayList<>(List.of(y -> y.sign(0), y -> y.end(2), y -> y.entry(0, 2, 0),
            y -> y.move(0, 0, 0), y -> y.beats(0), y -> y.cuts(2), y -> y.meets(0, 2, 3), y -> y.places(0, 2)));
        silent.addAll(List.of(y -> y.total(0, 0, 0), y -> y.total(0, 0, 5), y -> y.end(0), y -> y.finds(0), y -> y.keep(0),
            y -> y.again(0), y -> y.count(0), y -> y.row(0)));
        for (int i = 0; i < silent.size(); i++) {
            silent.get(i).accept(x);
            Check.row("call " + i + " tells no ROW", x, 1, 2, 2);
        }
        x.letters(0, 2);
        Check.row("a shorter one is all there is", x, 2);
        x.then(0);
        Check.due("a longer one", x.count(7), 12);
    }

    @Of(promise = 0, says = "Sets are bits (of NODES; of MOVES of a LOG by their numbers 0, 1, ..).")
    static void setsAreBits() {
        Far x = States.flat();
        Check.due("of NODES, the last is 8192", x.count(3), 16384 - 4);
        Check.due("with THE ROOT and THE TRASH", x.places(0, 13), 8192 - 1);
        Far y = States.logsOf(19);
        y.makes(0, 2, 2, 0);
        Check.due("of MOVES, the last is 524288", y.voids(0), 524288);
        Far z = new Far("m0aa0m0a/0");
        Check.due("the first is 1", z.voids(0), 1);
    }

    @Of(promise = 0, says = "Questions change nothing.")
    static void questionsChangeNothing() {
        List<Consumer<Far>> questions = new ArrayList<>(List.of(x -> x.letters(0, 1), x -> x.stable(2), x -> x.voids(1),
            x -> x.below(2, 0), x -> x.depth(2, 5), x -> x.meets(2, 5, 2), x -> x.places(2, 3)));
        for (int what = 0; what < 6; what++) {
            int k = what;
            questions.add(x -> x.total(2, 0, k));
            questions.add(x -> x.lists(2, 0, k % 4));
            questions.add(x -> x.move(1, 1, k));
        }
        for (int copy = 0; copy < 3; copy++) {
            int c = copy;
            int next = (copy + 1) % 3;
            questions.addAll(List.of(x -> x.path(c, 1), x -> x.apart(c, next), x -> x.late(c, next), x -> x.late(next, c)));
            questions.addAll(List.of(x -> x.then(c), x -> x.worst(c), x -> x.idle(c), x -> x.nearest(c, next)));
            questions.addAll(List.of(x -> x.nearest(next, c), x -> x.years(c, 40), x -> x.count(c)));
        }
        questions.addAll(List.of(x -> x.frees(1, 1), x -> x.entry(2, 5, 2), x -> x.row(0)));
        for (int i = 0; i < questions.size(); i++) {
            Far asked = States.some();
            questions.get(i).accept(asked);
            asked.voids(0);
            Far quiet = States.some();
            quiet.voids(0);
            Check.due("question " + i, asked.state(), quiet.state());
        }
    }

    @Of(promise = 0, says = "Refused calls answer NONE, or false, and change nothing but THE TEXT, "
        + "which a call that reads it empties.")
    static void refusedCallsChangeNothing() {
        List<Refused> all = new ArrayList<>(Refused.wrongArguments());
        all.addAll(Refused.otherNones());
        all.addAll(Refused.otherAnswers());
        for (Refused refused : all) {
            Check.changesNothing(refused.name(), refused.state(), refused.call(), refused.due());
        }
        for (int i : new int[] {-1, 2, Check.LEAST, Check.GREATEST}) {
            Check.changesNothing("keep " + i, States::some, x -> x.keep(i) ? 1 : 0, 0);
            Check.changesNothing("again " + i, States::some, x -> x.again(i) ? 1 : 0, 0);
            Check.changesNothing("end " + i, States::some, x -> i != 2 && x.end(i) ? 1 : 0, 0);
        }
        Check.changesNothing("again of nothing", States::some, x -> x.again(0) ? 1 : 0, 0);
        for (Refused refused : Refused.ofTheText()) {
            Far x = refused.state().get();
            Check.due(refused.name(), refused.call().applyAsInt(x), refused.due());
            Check.due("THE TEXT is empty", x.count(8), 0);
            Far y = refused.state().get();
            y.end(0);
            Check.due(refused.name() + " changes THE TEXT alone", x.state(), y.state());
        }
    }

    @Of(promise = 0, says = "NONE comes ahead of other answers below 0")
    static void noneComesAhead() {
        Far full = States.fullLogs();
        Check.due("a full LOG, no NAME", full.makes(0, 2, 0, 10), Check.NONE);
        Check.due("a full LOG, no FOLDER", full.makes(0, 1, 0, 0), Check.NONE);
        Check.due("a full LOG, no PARENT", full.makes(0, 2, 14, 0), Check.NONE);
        Check.due("a full LOG, two that are one", full.comes(0, 0), Check.NONE);
        Far x = States.fullWays();
        Check.due("a full way, no NAME", x.makes(0, 2, 0, -1), Check.NONE);
        Check.due("a full way, no FOLDER", x.makes(0, 14, 0, 0), Check.NONE);
        Check.due("none waits, two that are one", x.comes(1, 1), Check.NONE);
        Check.due("none waits, no COPY", x.comes(3, 0), Check.NONE);
        Check.due("none waits, no COPY", x.late(0, 3), Check.NONE);
        Check.due("none waits, two that are one", x.late(2, 2), Check.NONE);
        Check.due("none waits, no COPY", x.gathers(3), Check.NONE);
        Check.due("none waits, no COPY", x.worst(-1), Check.NONE);
        Check.due("not there, no COPY", x.below(3, 5), Check.NONE);
        Check.due("not there, no COPY", x.depth(3, 5), Check.NONE);
        Check.due("not there, no COPY", x.path(3, 5), Check.NONE);
        Check.due("not there, another what", x.total(0, 5, 6), Check.NONE);
        Check.due("not there, another how", x.lists(0, 5, 4), Check.NONE);
        Check.due("one not there, the other no NODE", x.meets(0, 5, 14), Check.NONE);
        Check.due("one no NODE, the other not there", x.meets(0, -1, 5), Check.NONE);
        Check.due("not VOID, no COPY", x.frees(3, 0), Check.NONE);
    }

    @Of(promise = 0, says = "the ROW stays with each answer below 0.")
    static void theRowStays() {
        List<Refused> all = new ArrayList<>(Refused.wrongArguments());
        all.addAll(Refused.otherNones());
        all.addAll(Refused.otherAnswers());
        all.addAll(Refused.ofTheText());
        for (Refused refused : all) {
            Far x = refused.state().get();
            x.then(2);
            long[] row = new long[12];
            for (int i = 0; i < row.length; i++) {
                row[i] = x.row(i);
            }
            Check.due(refused.name(), refused.call().applyAsInt(x), refused.due());
            Check.row(refused.name(), x, row);
        }
    }

    @Of(promise = 0, says = "A COPY, NODE, FOLDER, NAME that is none; two COPIES that are one: NONE.")
    static void whatIsNone() {
        for (Refused refused : Refused.wrongArguments()) {
            Check.due(refused.name(), refused.call().applyAsInt(refused.state().get()), Check.NONE);
        }
    }
}
