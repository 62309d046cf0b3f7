/** Objects with something behind them, that many tests begin with. */
final class States {
    private States() {
    }

    /**
     * At COPY 0 a 1 (1, 0) at THE ROOT, b 2 (2, 0) in it. At COPY 1 c 3 (1, 1) in THE TRASH, and c into itself, VOID
     * (2, 1). COPY 2 has all four, cut, and d 4 (3, 2) in b. LETTERS wait: 0 to 1 two, 1 to 0 three, 1 to 2 one,
     * 2 to 0 and to 1 two. The ROW is 1, 2, 2, THE TEXT has four signs.
     */
    static Far some() {
        Far x = new Far("m0a/1m0ba2m1c~3m1cc0g2b2m2db4x2b1");
        x.letters(1, 0);
        x.sign('b' << 24 | '0' << 16 | 'b' << 8 | '1');
        return x;
    }

    /** Each LOG has 20; two LETTERS with MOVES of TIME 19 and 20 wait on each way. */
    static Far fullLogs() {
        Far x = new Far();
        for (int i = 0; i < 3; i++) {
            x.doAll("m0a/0m0a/0m0a/0m0a/0m0b/0m0b/1g1g2");
        }
        x.doAll("m1ca4m1bc5m0ab6m0d/7", "m2e/0m2ee1");
        x.letters(2, 0);
        return x;
    }

    /** COPY 0 has made a six times over, and six LETTERS wait on both ways from it. */
    static Far fullWays() {
        Far x = new Far("m0a/0m0a/0m0a/0m0a/0m0a/0m0a/0");
        x.letters(0, 2);
        return x;
    }

    /** LOG of COPY 0 and of COPY 1 has n MOVES, 6 to 20, TIME 1 to n, all of a; for COPY 2 nothing waits up to TIME 18. */
    static Far logsOf(int n) {
        Far x = new Far();
        int made = 0;
        while (made < n) {
            StringBuilder day = new StringBuilder();
            for (int i = 0; i < 6 && made < n; i++) {
                day.append("m0a/0");
                made++;
            }
            x.doAll(day.append(made <= 18 ? "g1g2" : "g1").toString());
        }
        return x;
    }

    /** At COPY 0 all twelve FOLDERS, each in the one before it, the first at a NODE ('/' or '~'), all with NAME 1. */
    static Far chain(char top) {
        return new Far("m0a" + top + "1m0ba1m0cb1m0dc1m0ed1m0fe1", "g1g2", "m0gf1m0hg1m0ih1m0ji1m0kj1m0lk1");
    }

    /** At COPY 0 all twelve FOLDERS at THE ROOT with NAME 3; the later the lesser its number: RANK 0 is l, RANK 11 is a. */
    static Far flat() {
        return new Far("m0l/3m0k/3m0j/3m0i/3m0h/3m0g/3", "g1g2", "m0f/3m0e/3m0d/3m0c/3m0b/3m0a/3");
    }
}
