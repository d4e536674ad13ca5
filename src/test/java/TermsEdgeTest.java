/** The boundary cases of the document's "Terms", sentence by sentence. */
public final class TermsEdgeTest extends Checks {
    private static final int[] SEEDS = {0, 1, -1, 2, 3, 255, 256, 12345, -12345, 1 << 31, (1 << 31) - 1, 1 << 30};

    public static void main(String[] args) {
        texts();
        boards();
        begins();
        movesAtMost();
        puts();
        stepsAndTakes();
        hops();
        pushes();
        directions();
        musts();
        endsAtMost();
        rows();
        lacks();
        ways();
        pieces();
        outcomes();
        lengths();
        faults();
        gamesAtMost();
        orderOfMoves();
        orderOfEnds();
        stuckAndStopped();
        stuckAtTheBeginning();
        codes();
        namesUnderTurnings();
        looks();
        waysOfPlays();
        spent();
        bests();
        players();
        lots();
        matches();
        measures();
        unfair();
        otherVerdicts();
        distances();
        grown();
        kinAndFalls();
        puzzles();
        blunders();
        pies();
        niches();
        finish("TermsEdgeTest");
    }

    private static String listOf(String rule, int n) {
        return n == 0 ? "" : rule + times("," + rule, n - 1);
    }

    private static String board(int w, int h) {
        return "b" + w + h + ";";
    }

    /** A board with one sign on a CELL, another one on those next to it, a third one on the others. */
    private static String around(int w, int h, int c, String signs) {
        StringBuilder begin = new StringBuilder(board(w, h)).append('i');
        for (int there = 0; there < w * h; there++) {
            int dy = Math.abs(there / w - c / w);
            int dx = Math.abs(there % w - c % w);
            begin.append(signs.charAt(Math.min(2, Math.max(dy, dx))));
        }
        return begin.append(';').toString();
    }

    private static boolean inside(int w, int h, int y, int x) {
        return y >= 0 && y < h && x >= 0 && x < w;
    }

    /** The moves of a piece on c so many CELLS far, if a CELL one further on is inside or beyond as asked. */
    private static int[] reach(int w, int h, int c, char aim, int far, boolean onlyAtTheEdge) {
        int[] found = new int[8];
        int count = 0;
        for (int d = 0; d < 9; d++) {
            int dy = d / 3 - 1;
            int dx = d % 3 - 1;
            boolean straight = dy == 0 || dx == 0;
            boolean aimed = d != 4 && (aim == 'q' || straight == (aim == 'o'));
            int y = c / w + far * dy;
            int x = c % w + far * dx;
            if (aimed && inside(w, h, y, x) && !(onlyAtTheEdge && inside(w, h, y + dy, x + dx))) {
                found[count] = 100 * c + y * w + x;
                count++;
            }
        }
        return java.util.Arrays.copyOf(found, count);
    }

    private static void texts() {
        sentence("A GAME is read from a TEXT (90 bytes at most)");
        due("the longest has 70", LONGEST.length(), 70);
        GameLoom x = with(LONGEST);
        dueText(x, 0, LONGEST);
        due("its MOVES", x.of(0, 2), 6);
        due("its ENDS", x.of(0, 3), 6);
        String full = LONGEST + times(".", 20);
        fault(full, 70);
        feedAll(x, full);
        due("90 bytes", x.count(1), 90);
        due("one more", x.feed(1, '.'), -6);
        due("still 90", x.count(1), 90);
        fault(times("b", 90), 1);
    }

    private static void boards() {
        sentence("BOARD: \"b\", width, height (digits 2 .. 4).");
        for (int w = 0; w <= 9; w++) {
            for (int h = 0; h <= 9; h++) {
                String text = board(w, h) + "p0;nw.";
                if (w < 2 || w > 4 || h < 2 || h > 4) {
                    fault(text, w < 2 || w > 4 ? 1 : 2);
                } else {
                    GameLoom x = with(text);
                    due("width of " + text, x.of(0, 0), w);
                    due("height of " + text, x.of(0, 1), h);
                    due("CELLS of " + text, x.start(0), w * h);
                    due("the last CELL of " + text, x.cell(w * h - 1), 0);
                    due("no CELL of " + text, x.cell(w * h), -1);
                }
            }
        }
        fault("b" + (char) ('2' + 128) + "2;p0;nw.", 1);
        fault("b2" + (char) ('2' + 128) + ";p0;nw.", 2);
        fault((char) ('b' + 128) + "22;p0;nw.", 0);

        sentence("CELLS are numbered row by row from 0, the highest row first.");
        dueEnd("b42;iaxxxxxxx;p0;yw.", 3, 1, 0, 0);
        dueEnd("b42;iaxxxxxxx;p0;yw.", 0, 0, -9, -9);
        dueEnd("b24;iaxaxaxxx;p0;yw.", 3, 1, 0, 0);
    }

    private static void begins() {
        sentence("BEGIN: \"i\" and for each CELL \"a\", \"b\" or \"x\" (nothing).");
        for (int w = 2; w <= 4; w++) {
            for (int h = 2; h <= 4; h++) {
                String head = board(w, h) + "i";
                int cells = w * h;
                for (String sign : new String[] {"a", "b", "x"}) {
                    GameLoom x = with(head + times(sign, cells) + ";p0;nw.");
                    x.start(0);
                    dueCells(x, times(sign, cells));
                    due("A's of a full board", x.state(7), sign.equals("a") ? cells : 0);
                    due("B's of a full board", x.state(8), sign.equals("b") ? cells : 0);
                    fault(head + times(sign, cells - 1) + ";p0;nw.", 4 + cells);
                    fault(head + times(sign, cells + 1) + ";p0;nw.", 5 + cells);
                    fault(head + times(sign, cells), 5 + cells);
                    fault(head + times(sign, cells - 1) + "o;p0;nw.", 4 + cells);
                    fault(head + times(sign, cells - 1) + sign.toUpperCase() + ";p0;nw.", 4 + cells);
                }
            }
        }
        fault("b22;i;p0;nw.", 5);
        fault("b22;i", 5);
        fault("b22;iabxx;iabxx;p0;nw.", 10);

        sentence("Without it nothing is there. SIDE A begins.");
        GameLoom y = playing("b44;p0;m60.");
        dueCells(y, times("x", 16));
        due("A is to move", y.state(1), 0);
        y.play(0);
        due("then B is", y.state(1), 1);
        dueCells(y, "a" + times("x", 15));
    }

    private static void movesAtMost() {
        sentence("MOVES: MOVE { \",\" MOVE } (6 at most)");
        for (String rule : new String[] {"p0", "so", "hq!", "td", "uq!"}) {
            for (int n = 1; n <= 6; n++) {
                due("MOVES", with("b22;" + listOf(rule, n) + ";nw.").of(0, 2), n);
            }
            int seventh = 4 + 6 * (rule.length() + 1);
            fault("b22;" + listOf(rule, 7) + ";nw.", seventh);
            fault("b22;" + listOf(rule, 8) + ";nw.", seventh);
            fault("b22;" + listOf(rule, 6) + ",;nw.", seventh);
            fault("b22;" + listOf(rule, 6) + ",", seventh);
        }
        fault("b22;;nw.", 4);
        fault("b22;,p0;nw.", 4);
        fault("b22;p0,;nw.", 7);
    }

    private static void puts() {
        sentence("PUT: a piece of its own on an empty CELL, while it has fewer than that on the board; 0: always");
        for (int most = 1; most <= 9; most++) {
            for (int own = most - 1; own <= most + 1; own++) {
                String text = "b44;i" + times("a", own) + times("b", 5) + times("x", 11 - own) + ";p" + most + ";m60.";
                due("own " + own + " of " + text, with(text).start(0), own < most ? 11 - own : 0);
            }
        }
        due("p0 on an empty board", with("b44;p0;m60.").start(0), 16);
        due("p0 beside fifteen", with("b44;i" + times("a", 15) + "x;p0;m60.").start(0), 1);
        due("p0 on a full board", with("b44;i" + times("a", 16) + ";p0;m60.").start(0), 0);
        due("p9 on a board that is full", with("b22;iabba;p9;m60.").start(0), 0);
        GameLoom x = playing("b33;iabbxxxxxx;p2;m60.", 0);
        dueCells(x, "abbaxxxxx");
        due("B has its two", x.state(2), 2);
        GameLoom y = playing("b33;iabxxxxxxx;p2;m60.", 0, 5);
        dueCells(y, "abaxxxxxb");
        GameLoom z = playing("b33;iaxxxbxxxa;p2,so,td;m60.");
        due("A has its two", z.move(0), 10001);
        z.play(3);
        z.play(9);
        dueCells(z, "bxxxxxxax");
        due("for the piece that is gone another may come", z.move(0), 9901);
        for (int sign = 0; sign < 256; sign++) {
            boolean digit = sign >= '0' && sign <= '9';
            due("p and byte " + sign, enter(new GameLoom(), "b22;p" + (char) sign + ";nw."), digit ? 0 : -25);
        }
    }

    private static void stepsAndTakes() {
        sentence("\"s\" (STEP of a piece to an empty CELL next to it)");
        for (int w = 2; w <= 4; w++) {
            for (int h = 2; h <= 4; h++) {
                for (int c = 0; c < w * h; c++) {
                    for (char aim : new char[] {'o', 'd', 'q'}) {
                        int[] near = reach(w, h, c, aim, 1, false);
                        dueMoves(around(w, h, c, "axx") + "s" + aim + ";m60.", near);
                        dueMoves(around(w, h, c, "axb") + "s" + aim + ";m60.", near);
                        dueMoves(around(w, h, c, "abx") + "t" + aim + ";m60.", near);
                    }
                    dueMoves(around(w, h, c, "abx") + "sq;m60.");
                    dueMoves(around(w, h, c, "axb") + "tq;m60.");
                }
            }
        }
        dueMoves("b22;iaaaa;sq;m60.");

        sentence("\"t\" (TAKE: to a CELL next to it where the other's is, which is gone)");
        dueMoves("b22;iaaaa;tq;m60.");
        dueMoves("b33;iaxbxxxbxb;tq;m60.");
        GameLoom x = playing("b22;iabbb;tq;m60.", 2);
        dueCells(x, "xbba");
        due("one of B's is gone", x.state(8), 2);
        dueCells(playing("b22;iabbb;tq;m60.", 2, 1), "xbxb");
    }

    private static void hops() {
        sentence("\"h\" (HOP: over one of the other's next to it to the empty CELL behind, in line; that one is gone)");
        for (int w = 2; w <= 4; w++) {
            for (int h = 2; h <= 4; h++) {
                for (int c = 0; c < w * h; c++) {
                    for (char aim : new char[] {'o', 'd', 'q'}) {
                        dueMoves(around(w, h, c, "abx") + "h" + aim + ";m60.", reach(w, h, c, aim, 2, false));
                    }
                    dueMoves(around(w, h, c, "abb") + "hq;m60.");
                    dueMoves(around(w, h, c, "aba") + "hq;m60.");
                    dueMoves(around(w, h, c, "axx") + "hq;m60.");
                    dueMoves(around(w, h, c, "axb") + "hq;m60.");
                }
            }
        }
        dueMoves("b33;iaaxxxxxxx;hq;m60.");
        GameLoom x = playing("b44;iabxxbbxxxxxxxxxx;hq;m60.", 2);
        dueCells(x, "xbxxbxxxxxaxxxxx");
        due("just one is gone", x.state(8), 2);
    }

    private static void pushes() {
        sentence("which goes one on in line to an empty CELL, or beyond the edge: gone");
        for (int w = 2; w <= 4; w++) {
            for (int h = 2; h <= 4; h++) {
                for (int c = 0; c < w * h; c++) {
                    for (char aim : new char[] {'o', 'd', 'q'}) {
                        String push = "u" + aim + ";m60.";
                        dueMoves(around(w, h, c, "abx") + push, reach(w, h, c, aim, 1, false));
                        dueMoves(around(w, h, c, "abb") + push, reach(w, h, c, aim, 1, true));
                        dueMoves(around(w, h, c, "axb") + push);
                        pushed(w, h, c, aim);
                    }
                    dueMoves(around(w, h, c, "aax") + "uq;m60.");
                }
            }
        }
        dueMoves("b33;iabaxxxxxx;uq;m60.");
        dueMoves("b33;iabbxxxxxx;uq;m60.");
        dueMoves("b33;ixabxxxxxx;uq;m60.", 102);
    }

    /** Each push is done, and the CELLS behind it are looked at. */
    private static void pushed(int w, int h, int c, char aim) {
        int[] all = reach(w, h, c, aim, 1, false);
        for (int i = 0; i < all.length; i++) {
            String begin = around(w, h, c, "abx");
            GameLoom x = playing(begin + "u" + aim + ";m60.", i);
            int to = all[i] % 100;
            int y = 2 * (to / w) - c / w;
            int z = 2 * (to % w) - c % w;
            StringBuilder then = new StringBuilder(begin.substring(5, begin.length() - 1));
            then.setCharAt(c, 'x');
            then.setCharAt(to, 'a');
            if (inside(w, h, y, z)) {
                then.setCharAt(y * w + z, 'b');
            }
            dueCells(x, then.toString());
        }
    }

    private static void directions() {
        sentence("each of these four with \"o\" (up, down, left, right), \"d\" (aslant) or \"q\" (all eight).");
        for (char kind : new char[] {'s', 'h', 't', 'u'}) {
            for (int sign = 0; sign < 256; sign++) {
                boolean known = sign == 'o' || sign == 'd' || sign == 'q';
                due(kind + " and byte " + sign, enter(new GameLoom(), "b22;" + kind + (char) sign + ";nw."),
                    known ? 0 : -25);
            }
            fault("b22;" + kind, 5);
            fault("b22;" + kind + "oo;nw.", 6);
        }
        dueMoves(around(3, 3, 4, "axx") + "so;m60.", 401, 403, 405, 407);
        dueMoves(around(3, 3, 4, "axx") + "sd;m60.", 400, 402, 406, 408);
        dueMoves(around(3, 3, 4, "axx") + "sq;m60.", 400, 401, 402, 403, 405, 406, 407, 408);
    }

    private static void musts() {
        sentence("it MUST: if some MOVE that MUST can be done, none of the others may.");
        dueMoves("b22;iaxxb;so,td!;m60.", 10003);
        dueMoves("b22;iaxxb;so!,td;m60.", 1, 2);
        dueMoves("b22;iaxxb;so!,td!;m60.", 1, 2, 10003);
        dueMoves("b22;iaxxb;so,to!;m60.", 1, 2);
        dueMoves("b22;iaxxb;so,to!,hq!,p0;m60.", 1, 2, 39901, 39902);
        dueMoves("b22;iaxxb;so,to!,td!,p0;m60.", 20003);
        dueMoves("b22;iaxxb;p1!,so;m60.", 10001, 10002);
        dueMoves("b22;iaxxb;p2!,so;m60.", 9901, 9902);
        dueMoves("b22;iaxxb;p0!,so!,td!,to,hq,uo;m60.", 9901, 9902, 10001, 10002, 20003);
        due("B must by its own", playing("b22;ixaxb;so,td!;m60.", 0).move(0), 10300);
        fault("b22;p0!!;nw.", 7);
        fault("b22;!p0;nw.", 4);
        fault("b22;p!0;nw.", 5);
        fault("b22;s!o;nw.", 5);
        due("! of the sixth", enter(new GameLoom(), "b22;p0,p0,p0,p0,p0,p0!;nw."), 0);
    }

    private static void endsAtMost() {
        sentence("ENDS: END { \",\" END } (6 at most)");
        for (String rule : new String[] {"r3w", "nl", "gd", "yw", "k1l", "m40"}) {
            for (int n = 1; n <= 6; n++) {
                due("ENDS", with("b22;p0;" + listOf(rule, n) + ".").of(0, 3), n);
            }
            int seventh = 7 + 6 * (rule.length() + 1);
            fault("b22;p0;" + listOf(rule, 7) + ".", seventh);
            fault("b22;p0;" + listOf(rule, 8) + ".", seventh);
            fault("b22;p0;" + listOf(rule, 6) + ",.", seventh);
            fault("b22;p0;" + listOf(rule, 6) + ",", seventh);
        }
        fault("b22;p0;.", 7);
        fault("b22;p0;,nw.", 7);
        fault("b22;p0;nw,.", 10);
    }

    private static void rows() {
        sentence("(ROW: so many of the mover's in a straight line next to each other, aslant too)");
        for (int sign = 0; sign < 256; sign++) {
            boolean good = sign >= '2' && sign <= '4';
            due("r and byte " + sign, enter(new GameLoom(), "b22;p0;r" + (char) sign + "w."), good ? 0 : -28);
        }
        for (int n = 2; n <= 4; n++) {
            String row = ";p0;r" + n + "w.";
            dueEnd("b44;i" + times("a", n - 1) + times("x", 17 - n) + row, 0, 1, 0, 0);
            dueEnd("b44;i" + times("a", n - 2) + times("x", 18 - n) + row, 0, 0, -9, -9);
            dueEnd("b44;i" + times("axxx", n - 1) + times("x", 20 - 4 * n) + row, 3 * n - 3, 1, 0, 0);
            dueEnd("b44;i" + times("axxxx", n - 1) + times("x", 21 - 5 * n) + row, 4 * n - 4, 1, 0, 0);
            dueEnd("b44;ixxx" + times("axx", n - 1) + times("x", 16 - 3 * n) + row, 2 * n + 1, 1, 0, 0);
        }
        dueEnd("b44;iaaxaxxxxxxxxxxxx;p0;r3w.", 0, 1, 0, 0);
        dueEnd("b44;iaaxaxxxxxxxxxxxx;p0;r4w.", 1, 0, -9, -9);
        dueEnd("b33;ixaaxxxxxx;p0;r3w.", 1, 0, -9, -9);
        dueEnd("b44;ixxaxxxxaxxxxxxxx;p0;r3w.", 10, 0, -9, -9);
        dueEnd("b44;ixaxxaxxxxxxxxxxx;p0;r3w.", 5, 0, -9, -9);
        dueEnd("b44;ixxxaaxxxxxxxxxxx;p0;r2w.", 13, 0, -9, -9);
        dueEnd("b33;iaaxaaaaaa;p0;r4w.", 0, 2, 2, -9);
        dueEnd("b34;iaxxaxxaxxxxx;p0;r4w.", 6, 1, 0, 0);
        dueEnd("b43;iaaaxxxxxxxxx;p0;r4w.", 0, 1, 0, 0);
        dueEnd("b34;iaxxxaxxxaxxx;p0;r4w.", 8, 0, -9, -9);
        dueEnd("b33;ibbbxxxxxx;p0;r3w.", 0, 0, -9, -9);
        for (int w = 2; w <= 4; w++) {
            for (int h = 2; h <= 4; h++) {
                for (int c = 0; c < w * h; c++) {
                    rowsFrom(w, h, c);
                }
            }
        }
    }

    /** Each row of 2 to 4 that begins on a CELL, with that CELL left for a PUT. */
    private static void rowsFrom(int w, int h, int c) {
        for (int d = 0; d < 9; d++) {
            int dy = d / 3 - 1;
            int dx = d % 3 - 1;
            StringBuilder begin = new StringBuilder(times("x", w * h));
            for (int n = 2; d != 4 && inside(w, h, c / w + (n - 1) * dy, c % w + (n - 1) * dx); n++) {
                begin.setCharAt(c + (n - 1) * (dy * w + dx), 'a');
                String head = board(w, h) + "i" + begin + ";p0;r";
                GameLoom x = with(head + n + "w.");
                x.start(0);
                x.play(placeOf(x, 9900 + c));
                dueEnded(begin + " and " + c, x, 1, 0, 0);
                GameLoom y = with(head + Math.min(4, n + 1) + "w.");
                y.start(0);
                y.play(placeOf(y, 9900 + c));
                due(begin + " and " + c + " for one more", y.state(2) == 1 ? 1 : 0, n == 4 ? 1 : 0);
            }
        }
    }

    private static void lacks() {
        sentence("\"n\" (the other side has no move then)");
        dueEnd("b22;iaaax;p0;nw.", 0, 1, 0, 0);
        dueEnd("b22;iaabx;p2,so;nw.", 0, 0, -9, -9);
        dueEnd("b22;iabbx;p2;nw.", 0, 1, 0, 0);
        dueEnd("b22;iabxx;p2;nw.", 0, 0, -9, -9);
        dueEnd("b33;iabbxxxxxx;so,p0;nw.", 0, 0, -9, -9);

        sentence("\"g\" (the other side has no pieces)");
        dueEnd("b22;p0;gw.", 0, 1, 0, 0);
        dueEnd("b22;ibxxx;p0;gw.", 0, 0, -9, -9);
        dueEnd("b22;iabbx;to;gw.", 0, 2, 2, -9);
        dueEnd("b22;iabxx;to;gw.", 0, 1, 0, 0);
        dueEnd("b22;iabxx;uo;gw.", 0, 1, 0, 0);
        dueEnd("b33;iabxxxxxxx;uo;gw.", 0, 0, -9, -9);
        dueEnd("b33;iabxxxxxxx;ho;gw.", 0, 1, 0, 0);
    }

    private static void ways() {
        sentence("WAY: of A from the highest row to the lowest, of B from the left column to the right one");
        for (int w = 2; w <= 4; w++) {
            for (int h = 2; h <= 4; h++) {
                for (int column = 0; column < w; column++) {
                    wayOfLine(w, h, column, w, h, 'a');
                    wayOfLine(w, h, column, w, h, 'b');
                }
                for (int row = 0; row < h; row++) {
                    wayOfLine(w, h, row * w, 1, w, 'a');
                    wayOfLine(w, h, row * w, 1, w, 'b');
                }
            }
        }

        sentence("by its own pieces next to each other up, down, left, right");
        dueEnd("b33;ixxaxxaaax;p0;yw.", 3, 1, 0, 0);
        dueEnd("b33;ixxaxaxxxx;p0;yw.", 5, 0, -9, -9);
        dueEnd("b33;ixxaxxxaxx;p0;yw.", 3, 0, -9, -9);
        dueEnd("b33;ixxaaxxaxx;p0;yw.", 3, 0, -9, -9);
        dueEnd("b33;iaxxbxxaxx;p0;yw.", 3, 0, -9, -9);
        dueEnd("b44;iaxxxaaaxxxaxxxxx;p0;yw.", 9, 1, 0, 0);
        dueEnd("b44;ixxxaaaaaxxxxaxxx;p0;yw.", 3, 1, 0, 0);
        dueEnd("b44;ixxxaaaaaxxxxaxxx;p0;yw.", 4, 0, -9, -9);
        dueEnd("b34;ixxaaaaaxxaxx;p0;yw.", 0, 1, 0, 0);
        dueEnd("b43;iaaaxxxxaxxxa;p0;yw.", 0, 1, 0, 0);
        dueEnd("b44;iaaaxxxxaaaaaxxxx;p0;yw.", 0, 0, -9, -9);
        dueEnd("b44;iaaaaxxxaaaaaxxxx;p0;yw.", 3, 1, 0, 0);
    }

    /** A line of one side whose last CELL is left for a PUT; upright ones are A's WAY, the others B's. */
    private static void wayOfLine(int w, int h, int first, int stride, int length, char side) {
        StringBuilder begin = new StringBuilder(times("x", w * h));
        for (int i = 0; i < length - 1; i++) {
            begin.setCharAt(first + i * stride, side);
        }
        int last = first + (length - 1) * stride;
        String text = board(w, h) + "i" + begin + ";p0;yw.";
        GameLoom x = playing(text);
        if (side == 'b') {
            x.play(x.move(0) == 9900 + last ? 1 : 0);
        }
        x.play(placeOf(x, 9900 + last));
        boolean holds = (stride > 1) == (side == 'a');
        dueEnded(text, x, holds ? 1 : 0, holds ? side - 'a' : -9, holds ? 0 : -9);
    }

    private static void pieces() {
        sentence("\"k\" and a digit 1 .. 9 (the mover has so many pieces or more)");
        for (int sign = 0; sign < 256; sign++) {
            boolean good = sign >= '1' && sign <= '9';
            due("k and byte " + sign, enter(new GameLoom(), "b22;p0;k" + (char) sign + "w."), good ? 0 : -28);
        }
        for (int n = 1; n <= 9; n++) {
            for (int own = Math.max(0, n - 3); own <= n + 1; own++) {
                boolean holds = own + 1 >= n;
                dueEnd("b44;i" + times("a", own) + "bbb" + times("x", 13 - own) + ";p0;k" + n + "w.", 0,
                    holds ? 1 : 0, holds ? 0 : -9, holds ? 0 : -9);
            }
        }
    }

    private static void outcomes() {
        sentence("each with \"w\", \"l\" or \"d\" (the mover wins, loses; drawn)");
        for (String rule : new String[] {"r2", "n", "g", "y", "k1"}) {
            for (int sign = 0; sign < 256; sign++) {
                boolean good = sign == 'w' || sign == 'l' || sign == 'd';
                due(rule + " and byte " + sign, enter(new GameLoom(), "b22;p0;" + rule + (char) sign + "."),
                    good ? 0 : -27 - rule.length());
            }
            fault("b22;p0;" + rule, 7 + rule.length());
            fault("b22;p0;" + rule + ".", 7 + rule.length());
            fault("b22;p0;" + rule + "ww.", 8 + rule.length());
        }
        dueEnd("b22;p0;k1w.", 0, 1, 0, 0);
        dueEnd("b22;p0;k1l.", 0, 1, 1, 0);
        dueEnd("b22;p0;k1d.", 0, 1, 2, 0);
        dueEnded("B wins", playing("b22;ibbxx;p0;k3w.", 0, 0), 1, 1, 0);
        dueEnded("B loses", playing("b22;ibbxx;p0;k3l.", 0, 0), 1, 0, 0);
        dueEnded("B and drawn", playing("b22;ibbxx;p0;k3d.", 0, 0), 1, 2, 0);
    }

    private static void lengths() {
        sentence("\"m\" and two digits (so many moves were done, or more: drawn)");
        for (int sign = 0; sign < 256; sign++) {
            boolean digit = sign >= '0' && sign <= '9';
            due("m and byte " + sign, enter(new GameLoom(), "b22;p0;m" + (char) sign + "0."), digit ? 0 : -28);
            due("m0 and byte " + sign, enter(new GameLoom(), "b22;p0;m0" + (char) sign + "."), digit ? 0 : -29);
        }
        fault("b22;p0;m", 8);
        fault("b22;p0;m.", 8);
        fault("b22;p0;m5.", 9);
        fault("b22;p0;m005.", 10);
        fault("b22;p0;m05d.", 10);
        for (int n = 0; n <= 99; n++) {
            GameLoom x = playing("b33;iaxxxxxxxb;so;m" + n / 10 + n % 10 + ".");
            int last = Math.min(60, Math.max(1, n));
            for (int i = 1; i <= last; i++) {
                due("m" + n + " goes on", x.state(2), 0);
                due("m" + n + " move", x.play(0), i);
            }
            dueEnded("m" + n, x, n <= 60 ? 1 : 3, 2, n <= 60 ? 0 : -9);
        }
    }

    private static void faults() {
        sentence("FAULT: the place of the first byte that can not stand (the end, if something lacks;");
        String[] whole = {LONGEST, "b23;p0;nw.", "b22;iabxx;so,hd,p0!;r2w,m99,nl,gd,yw,k9l."};
        for (String text : whole) {
            due("whole", enter(new GameLoom(), text), 0);
            for (int i = 0; i < text.length(); i++) {
                fault(text.substring(0, i), i);
                fault(text.substring(0, i) + (char) 0 + text.substring(i + 1), i);
                fault(text.substring(0, i) + (char) (128 + text.charAt(i)) + text.substring(i + 1), i);
            }
            fault(text + ".", text.length());
            fault(text + (char) 0, text.length());
        }
        String last = whole[2];
        for (int i = 0; i < last.length(); i++) {
            for (char sign = 32; sign < 128; sign++) {
                String text = last.substring(0, i) + sign + last.substring(i + 1);
                int fault = SlowLoom.fault(text);
                due("game of " + text, enter(new GameLoom(), text), fault < 0 ? 0 : -20 - fault);
            }
        }

        sentence("of a seventh MOVE, END its first; a digit out of its range its own)");
        fault("b22;p0,p0,p0,p0,p0,p0,z", 22);
        fault("b22;p0,p0,p0,p0,p0,p0,p", 22);
        fault("b22;p0,p0,p0,p0,p0,p0,nw.", 22);
        fault("b22;p0;nw,nw,nw,nw,nw,nw,z", 25);
        fault("b22;p0;nw,nw,nw,nw,nw,nw,n", 25);
        fault("b92;p0;nw.", 1);
        fault("b29;p0;nw.", 2);
        fault("b22;p0;r9w.", 8);
        fault("b22;p0;k0w.", 8);
    }

    private static void gamesAtMost() {
        sentence("GAMES have numbers from 0 on (8 at most).");
        GameLoom x = full(LONGEST);
        due("eight", x.count(0), 8);
        due("a ninth", enter(x, ROWS), -6);
        due("still eight", x.count(0), 8);
        due("the last is there", x.of(7, 4), FORK.length());
        due("none behind it", x.of(8, 4), -1);
        due("none ahead of the first", x.of(-1, 4), -1);
    }

    private static void orderOfMoves() {
        sentence("A MOVE is one of the GAME's MOVES (k), a CELL from (of PUT: 99), a CELL to.");
        dueMoves("b44;iaaaaaaaaaaaaaaax;p0,p0,p0,p0,p0,p0;m60.", 9915, 19915, 29915, 39915, 49915, 59915);
        dueMoves("b44;ixxxxxxxxxxxxxxxa;sd;m60.", 1510);

        sentence("All moves in the order: by k, by from, by to. (Of HOP and PUSH to is where the piece goes.)");
        dueMoves("b33;iaxxxbxxxa;so,tq,p4;m60.", 1, 3, 805, 807, 10004, 10804,
            29901, 29902, 29903, 29905, 29906, 29907);
        dueMoves("b33;iabxbxxxxx;ho,uo;m60.", 2, 6, 10001, 10003);
        dueMoves("b33;ixxxxbxxba;hq,uq,sq;m60.", 800, 806, 10804, 10807, 20805);
    }

    private static void orderOfEnds() {
        sentence("Behind a move the ENDS are asked as they are told: the first that holds ends the play.");
        dueEnd("b22;p0;k2w,k3w,k4w,r2w,yw,k1l.", 0, 1, 1, 5);
        dueEnd("b22;p0;k1w,k1l.", 0, 1, 0, 0);
        dueEnd("b22;p0;k1l,k1w.", 0, 1, 1, 0);
        dueEnd("b22;p0;k1d,k1w.", 0, 1, 2, 0);
        dueEnd("b22;p0;m00,k1w.", 0, 1, 2, 0);
        dueEnd("b22;p0;k1w,m00.", 0, 1, 0, 0);
        dueEnd("b22;p0;k9w,gl,m00,k1w.", 0, 1, 1, 1);
    }

    /** 59 moves to and fro, behind which A's piece is next to B's. */
    private static GameLoom ofFiftyNine(String ends) {
        GameLoom x = playing("b33;iaxxxxxxxb;so,to;" + ends + ".");
        for (int i = 0; i < 29; i++) {
            x.play(placeOf(x, i % 2 == 0 ? 1 : 100));
            x.play(placeOf(x, i % 2 == 0 ? 807 : 708));
        }
        due("59", x.play(placeOf(x, 104)), 59);
        due("59 go on", x.state(2), 0);
        return x;
    }

    private static void stuckAndStopped() {
        sentence("Else, if the other side has no move: STUCK (drawn); else, if 60 moves were done: STOPPED (drawn).");
        int take = 10704;
        int step = 708;
        GameLoom x = ofFiftyNine("k9w");
        due("60", x.play(placeOf(x, step)), 60);
        dueEnded("stopped", x, 3, 2, -9);
        due("no 61st", x.play(0), -3);
        due("back", x.back(), 59);
        due("60 and stuck", x.play(placeOf(x, take)), 60);
        dueEnded("stuck ahead of stopped", x, 2, 2, -9);
        x = ofFiftyNine("k9w,m60");
        x.play(placeOf(x, take));
        dueEnded("an end ahead of stuck", x, 1, 2, 1);
        x = ofFiftyNine("k9w,nw");
        x.play(placeOf(x, take));
        dueEnded("no move is an end", x, 1, 1, 1);
        x = ofFiftyNine("k9w,nw");
        x.play(placeOf(x, step));
        dueEnded("stopped behind ends that hold not", x, 3, 2, -9);
        dueEnd("b22;iaaax;p0;k9w.", 0, 2, 2, -9);
        dueEnd("b22;iaaax;p0;k4w.", 0, 1, 0, 0);
    }

    private static void stuckAtTheBeginning() {
        sentence("A play that begins: if A has no move, it is STUCK.");
        for (String begin : new String[] {"ibbxx;so", "ixxxx;sq", "iaaaa;sq", "ibbbb;p0", "iaxxx;p1"}) {
            GameLoom x = with("b22;" + begin + ";nw,gw,m00,k1l.");
            due("no move of " + begin, x.start(0), 0);
            dueEnded("stuck " + begin, x, 2, 2, -9);
            due("no moves done", x.state(0), 0);
            due("a match of it", x.match(0, 0, 0, 1), 2);
            due("its matches are stuck", x.measure(0, 20, 1, 0, 5), 20);
            due("and drawn", x.measure(0, 20, 1, 0, 2), 20);
            due("and have no moves", x.measure(0, 20, 1, 0, 3), 0);
            due("the longest neither", x.measure(0, 20, 1, 0, 6), 0);
        }
        GameLoom y = with("b22;iaaxx;p0;m00,k1w,r2w,yw,gw.");
        due("no END is asked at the beginning", y.start(0), 2);
        due("it goes on", y.state(2), 0);
    }

    private static void codes() {
        sentence("CODE of a position: CELLS as digits to the base 3 (0 nothing, 1 A's, 2 B's; CELL 0 the lowest).");
        int power = 1;
        for (int c = 0; c < 16; c++) {
            due("a on " + c, playing("b44;i" + times("x", c) + "a" + times("x", 15 - c) + ";sq;m60.").state(5), power);
            due("b on " + c, playing("b44;i" + times("x", c) + "b" + times("x", 15 - c) + ";sq;m60.").state(5),
                2 * power);
            power *= 3;
        }
        due("all A's", playing("b44;i" + times("a", 16) + ";p0;nw.").state(5), (power - 1) / 2);
        due("all B's", playing("b44;i" + times("b", 16) + ";p0;nw.").state(5), 43046720);
        due("the name of all B's", playing("b44;i" + times("b", 16) + ";p0;nw.").state(6), 43046720);
        due("nothing", playing("b44;p0;nw.").state(5), 0);
        due("the name of nothing", playing("b44;p0;nw.").state(6), 0);
    }

    private static void namesUnderTurnings() {
        sentence("NAME: the least CODE under all turnings and mirrorings of the board");
        java.util.Random random = new java.util.Random(5);
        for (int i = 0; i < 90; i++) {
            int w = 2 + i % 3;
            int h = 2 + i / 3 % 3;
            StringBuilder begin = new StringBuilder();
            for (int c = 0; c < w * h; c++) {
                begin.append("abxx".charAt(random.nextInt(4)));
            }
            GameLoom x = with(board(w, h) + "i" + begin + ";sq;m60.");
            x.start(0);
            due("name of " + w + " by " + h + " " + begin, x.state(6), leastCode(w, h, begin.toString()));
        }

        sentence("(eight; of boards with unlike sides the four that keep it)");
        due("a corner of eight", playing("b22;ixxax;sq;m60.").state(6), 1);
        due("a side of 3 by 3", playing("b33;ixxxaxxxxx;sq;m60.").state(6), 3);
        due("a side of 3 by 2", playing("b32;ixxxxax;sq;m60.").state(6), 3);
        due("a side of 2 by 3", playing("b23;ixxxaxx;sq;m60.").state(6), 9);
        due("two in a row of 2 by 3", playing("b23;iaaxxxx;sq;m60.").state(6), 4);
        due("two in a column of 2 by 3", playing("b23;iaxaxxx;sq;m60.").state(6), 10);
    }

    private static int leastCode(int w, int h, String begin) {
        int least = Integer.MAX_VALUE;
        for (int t = 0; t < 8; t++) {
            if (t >= 4 && w != h) {
                continue;
            }
            int code = 0;
            int power = 1;
            for (int c = 0; c < w * h; c++) {
                int y = t % 2 == 0 ? c / w : h - 1 - c / w;
                int x = t / 2 % 2 == 0 ? c % w : w - 1 - c % w;
                code += power * "xab".indexOf(begin.charAt(t < 4 ? y * w + x : x * w + y));
                power *= 3;
            }
            least = Math.min(least, code);
        }
        return least;
    }

    private static void looks() {
        sentence("2 it wins for certain in n moves or fewer, 0 it loses so, 1 else.");
        GameLoom x = playing("b32;p0;nw.");
        for (int left = 6; left >= 1; left--) {
            for (int n = 0; n <= 6; n++) {
                due("look " + n + " with " + left + " left", x.look(n), n < left ? 1 : left % 2 == 0 ? 0 : 2);
            }
            x.play(0);
        }
        GameLoom y = playing("b32;p0;nl.");
        for (int left = 6; left >= 1; left--) {
            for (int n = 0; n <= 6; n++) {
                due("turned look " + n + " with " + left + " left", y.look(n), n < left ? 1 : left % 2 == 0 ? 2 : 0);
            }
            y.play(0);
        }

        sentence("(By all moves of both. A play that ended is as it ended: drawn 1.)");
        due("drawn by an END", playing("b22;p0;m01.").look(6), 1);
        due("drawn by STUCK", playing("b22;p0;k9w.").look(6), 1);
        due("drawn or lost", playing("b22;iaaxx;p0,so;k3l,m01.").look(1), 1);
        due("won, drawn or lost", playing("b22;iaaxx;so,p0,p0;m02,k3w.").look(1), 2);
        due("lost by each", playing("b22;iaaxx;p0;k3l.").look(1), 0);
        GameLoom z = ofFiftyNine("k9w");
        due("drawn by STOPPED", z.look(6), 1);
        GameLoom w = ofFiftyNine("gw");
        due("won by the 60th", w.look(1), 2);
        w.back();
        due("59 moves done by then", w.look(2), 1);
    }

    private static void waysOfPlays() {
        sentence("(those that ended ahead of it count not; their last ones do)");
        due("the one that wins counts", playing(FORK).ways(1), 5);
        due("and does not go on", playing(FORK).ways(2), 16);
        int[] of = {4, 12, 24, 0, 0, 0};
        for (int n = 1; n <= 6; n++) {
            due("three moves, ways " + n, playing(THREE_MOVES).ways(n), of[n - 1]);
            due("none of what ended, ways " + n, playing(THREE_MOVES, 0, 0, 0).ways(n), 0);
        }
        GameLoom x = ofFiftyNine("k9w");
        due("ways to the 60th", x.ways(1), x.move(-1));
        due("none to the 61st", x.ways(2), 0);
    }

    private static void spent() {
        sentence("SPENT: if WAYS 1 to n come together to more than 3000.");
        GameLoom x = playing(AT_3000);
        due("just 3000", x.ways(1) + x.ways(2) + x.ways(3), 3000);
        due("look at 3000", x.look(3), 2);
        due("best at 3000", x.best(3), WINS_AT_3000);
        due("kin at 3000", x.kin(0, 0, 3), 1);
        due("nothing was spent", x.count(15), 0);
        GameLoom y = playing(AT_3001);
        due("just 3001", y.ways(1) + y.ways(2) + waysBehind(y, 2), 3001);
        due("ways at 3001", y.ways(3), -5);
        due("look at 3001", y.look(3), -5);
        due("best at 3001", y.best(3), -5);
        due("kin at 3001", y.kin(0, 0, 3), -5);
        due("fewer are not", y.look(2), 2);
        due("3000 together, and more to come", playing("b44;iaxaxaaxxxxxaaxxx;p0,p0;r3w.").ways(3), -5);
        due("nor are none", playing("b44;p0,p0,p0,p0,p0,p0;m60.").look(0), 1);
    }

    /** WAYS n of all positions behind the moves of THE PLAY. */
    private static int waysBehind(GameLoom x, int n) {
        int together = 0;
        for (int i = 0; i < x.move(-1); i++) {
            x.play(i);
            together += x.ways(n);
            x.back();
        }
        return together;
    }

    private static void bests() {
        sentence("BEST by LOOK n: the first move behind which the LOOK n less 1 of the other side is least.");
        due("all the same", playing("b44;p0;m60.").best(1), 0);
        due("the first of two that win", playing("b33;ixaaxbbxxx;p0;r3w.").best(1), 0);
        due("of those that win the first", playing("b33;ixxxxxxxaa;p0;r3w.").best(1), 6);
        due("the last one wins", playing("b33;iaxxxaxxxx;p0;r3w.").best(1), 6);
        due("least is lost, not drawn", playing("b22;iaaxx;so,p0;k2d,k3w.").best(1), 0);
        due("drawn ahead of lost", playing("b22;iaaxx;p0,so;k3l,k2d.").best(1), 2);
        due("one less: not seen", playing("b33;iaxxbbxxxx;p0;r3w.").best(1), 0);
        due("one less: seen", playing("b33;iaxxbbxxxx;p0;r3w.").best(2), 2);
    }

    private static void players() {
        sentence("PLAYERS: 0 by LOTS; 1 .. 3: BEST by LOOK of so many (SPENT: the first move).");
        for (int seed : SEEDS) {
            GameLoom x = with(AT_3000, AT_3001);
            for (int player = 1; player <= 3; player++) {
                due("wins at once", x.match(0, player, 0, seed), 10);
                due("spent or not", x.match(1, player, 0, seed) == 10 ? 1 : 0, player < 3 ? 1 : 0);
            }
            due("the first move", x.match(1, 3, 0, seed), replay(x, 1, 3, 0, seed));
        }
        GameLoom y = with(ROWS);
        due("no player -1", y.match(0, -1, 0, 1), -2);
        due("no player -1 for B", y.match(0, 0, -1, 1), -2);
        due("no player 4", y.match(0, 4, 0, 1), -2);
        due("no player 4 for B", y.match(0, 0, 4, 1), -2);
        due("player 3 for both", y.match(0, 3, 3, 1), replay(y, 0, 3, 3, 1));
    }

    private static void lots() {
        sentence("LOTS: z becomes z * 1103515245 + 12345 (an int), of m moves the ((z >>> 8) % m)-th.");
        for (int seed : SEEDS) {
            GameLoom x = with("b22;p0,p0,p0;m01.");
            long z = ((seed & 0xFFFFFFFFL) * 1103515245L + 12345) & 0xFFFFFFFFL;
            int chosen = (int) ((z >> 8) % 12);
            for (int k = 0; k < 3; k++) {
                due("MOVE " + k + " from " + seed, x.measure(0, 1, seed, 0, 10 + k), chosen / 4 == k ? 1 : 0);
            }
            GameLoom y = with("b22;p0,p0,p0;m02.");
            long then = (z * 1103515245L + 12345) & 0xFFFFFFFFL;
            int second = (int) ((then >> 8) % 9);
            for (int k = 0; k < 3; k++) {
                due("two MOVES " + k + " from " + seed, y.measure(0, 1, seed, 0, 10 + k),
                    (chosen / 4 == k ? 1 : 0) + (second / 3 == k ? 1 : 0));
            }
        }
    }

    private static void matches() {
        sentence("from its beginning to the end. (It has nothing to do with the PLAY at hand.)");
        GameLoom x = with(ROWS, FORK);
        due("no PLAY", x.match(0, 0, 0, 1), 50);
        due("still none", x.count(2), -9);
        x.start(0);
        x.play(4);
        due("a PLAY at hand", x.match(0, 0, 0, 1), 50);
        x.match(1, 1, 1, 1);
        x.measure(1, 20, 1, 33, 0);
        x.verdicts(1, 1);
        x.distance(0, 1, 1);
        x.puzzle(1, 1, 4);
        x.blunder(1, 1, 4);
        x.pie(1, 4, 0);
        x.kin(0, 1, 3);
        x.keep(1, 1);
        dueCells(x, "xxxxaxxxx");
        due("its moves", x.move(-1), 8);
        due("its last move", x.move(7), 9908);
        due("its way back", x.back(), 0);
        due("its beginning", x.move(-1), 9);
    }

    private static void measures() {
        sentence("A MEASURE: n MATCHES (1 .. 20), the i-th with seed z and i.");
        GameLoom x = with(ROWS);
        due("none", x.measure(0, 0, 1, 0, 3), -4);
        due("21", x.measure(0, 21, 1, 0, 3), -6);
        int together = 0;
        int longest = 0;
        int wonByB = 0;
        for (int i = 0; i < 20; i++) {
            int match = x.match(0, 0, 0, Integer.MAX_VALUE - 9 + i);
            together += match / 10;
            longest = Math.max(longest, match / 10);
            wonByB += match % 10 == 1 ? 1 : 0;
            due("moves of " + (i + 1), x.measure(0, i + 1, Integer.MAX_VALUE - 9, 0, 3), together);
        }
        due("the longest of 20", x.measure(0, 20, Integer.MAX_VALUE - 9, 0, 6), longest);
        due("won by B of 20", x.measure(0, 20, Integer.MAX_VALUE - 9, 0, 1), wonByB);
        due("7 by A", x.measure(0, 10, 7, 0, 0), 7);
        due("2 by B", x.measure(0, 10, 7, 0, 1), 2);
        due("1 drawn", x.measure(0, 10, 7, 0, 2), 1);
        GameLoom y = with(ENDLESS, "b22;p0;m02.", ROWS);
        due("the longest has 60", y.measure(0, 2, 1, 0, 6), 60);
        due("and does not last", y.measure(1, 2, 1, 0, 6), 2);
        due("nor do the moves", y.measure(1, 2, 1, 0, 3), 4);
        y.measure(2, 20, 7, 0, 0);
        due("nor do the wins", y.measure(1, 2, 1, 0, 0) + y.measure(1, 2, 1, 0, 1), 0);
    }

    private static void dueUnfair(String text, int z, int wonByA, int wonByB, boolean unfair) {
        GameLoom x = with(text);
        due("won by A", x.measure(0, 12, z, 0, 0), wonByA);
        due("won by B", x.measure(0, 12, z, 0, 1), wonByB);
        due(wonByA + " and " + wonByB + " unfair", x.verdicts(0, z) & 1, unfair ? 1 : 0);
    }

    private static void unfair() {
        sentence("the first side won less than a quarter or more than three quarters (none won: not)");
        dueUnfair(ROWS, 38, 9, 3, false);
        dueUnfair(ROWS, 6, 8, 2, true);
        dueUnfair(ROWS, 389, 2, 6, false);
        dueUnfair("b33;p0;r3l.", 38, 3, 9, false);
        dueUnfair("b33;p0;r3l.", 6, 2, 8, true);
        dueUnfair("b33;p0;r3l.", 389, 6, 2, false);
        dueUnfair("b33;p0;r3l.", 4, 3, 6, false);
        dueUnfair("b23;p0;yw.", 6, 1, 6, true);
        dueUnfair("b23;p0;r3w.", 5, 1, 0, true);
        dueUnfair("b23;p0;r3l.", 5, 0, 1, true);
        dueUnfair("b23;p0;r3d.", 5, 0, 0, false);
        dueUnfair("b22;p0;k1w.", 5, 12, 0, true);
        dueUnfair("b22;p0;k1l.", 5, 0, 12, true);
    }

    private static void otherVerdicts() {
        sentence("2 ENDLESS: one was STOPPED");
        GameLoom x = with("b33;p3,sq;r3w.", ENDLESS);
        due("one was", x.measure(0, 12, 18, 0, 4), 1);
        due("one is enough", x.verdicts(0, 18), 2);
        due("none was", x.measure(0, 12, 1, 0, 4), 0);
        due("none is", x.verdicts(0, 1), 0);
        due("all were", x.verdicts(1, 1), 2 + 16);

        sentence("4 some MOVE was never used");
        GameLoom y = with("b33;iaxxxxxxxb;so,to;m06.", "b33;iaxxxxxxxb;so,p1;m06.", "b33;iaxxxxxxxb;p1,so;m06.",
            "b22;p0,p0,p0,p0,p0,hq;m06.");
        due("used once", y.measure(0, 12, 8, 0, 11), 1);
        due("once is enough", y.verdicts(0, 8), 0);
        due("the last never", y.verdicts(1, 8), 4);
        due("the first never", y.verdicts(2, 8), 4);
        due("the sixth never", y.verdicts(3, 8) & 4, 4);

        sentence("8 DULL: all moves together are fewer than 48");
        GameLoom z = with("b22;iaxxb;so,tq;gw.");
        due("47", z.measure(0, 12, 66, 0, 3), 47);
        due("47 are dull", z.verdicts(0, 66), 8);
        due("48", z.measure(0, 12, 67, 0, 3), 48);
        due("48 are not", z.verdicts(0, 67), 0);
        due("no moves are", with("b22;ibbbb;p0;gw.").verdicts(0, 1), 4 + 8 + 16);

        sentence("16 some END never ended one");
        GameLoom w = with("b33;p0;r3w,nl.", "b22;p0;k9w,k8w,k7w,k6w,m04,m04.");
        due("ended one", w.measure(0, 12, 7, 0, 21), 1);
        due("one is enough", w.verdicts(0, 7), 0);
        due("ended none", w.measure(0, 12, 38, 0, 21), 0);
        due("none is told", w.verdicts(0, 38), 16);
        due("the others never", w.verdicts(1, 1), 16);
    }

    private static void distances() {
        sentence("how far are the wins of the first side, of the second, and the moves together by 10, cut, added up.");
        GameLoom x = with(ROWS, "b33;p3,so;r3w,nl,m40.", "b22;p0;k1w.", "b22;p0;k1l.", ENDLESS);
        due("75 moves", x.measure(0, 10, 3, 0, 3), 75);
        due("174 moves", x.measure(1, 10, 3, 0, 3), 174);
        due("2 and 1 wins, 7 and 17", x.distance(0, 1, 3), 2 + 1 + 10);
        due("the other way", x.distance(1, 0, 3), 2 + 1 + 10);
        due("all by A, all by B", x.distance(2, 3, 3), 20);
        due("ten moves, and six hundred", x.distance(2, 4, 3), 10 + 59);
        due("of itself", x.distance(1, 1, 3), 0);
        due("from a last seed", x.distance(0, 0, Integer.MAX_VALUE), 0);

        sentence("WHAT FOR: a MOVE of a GAME: the DISTANCE of the GAME and of that without this MOVE.");
        GameLoom y = with("b22;p0,so;k1w.", "b22;so;k1w.", "b22;p0;k1w.");
        due("without the first it is stuck", y.whatFor(0, 0, 3), 10 + 1);
        due("as by hand", y.distance(0, 1, 3), 10 + 1);
        due("without the last it is the same", y.whatFor(0, 1, 3), 0);
        due("no other MOVE", y.whatFor(2, 0, 3), -9);
        due("no third MOVE", y.whatFor(0, 2, 3), -1);
        GameLoom z = with("b33;iaxxxxxxxb;so,tq;gw,m40.", "b33;p3,sq;r3w,nl,m40.");
        int without = z.drop(0, 1, false);
        int unput = z.drop(1, 1, false);
        for (int seed : SEEDS) {
            due("as by hand from " + seed, z.whatFor(0, 1, seed), z.distance(0, without, seed));
            due("as by hand without a BEGIN", z.whatFor(1, 1, seed), z.distance(1, unput, seed));
        }
    }

    private static void grown() {
        sentence("GROWN: GRAFT of two: BOARD, BEGIN and MOVES of the first, ENDS of the other one.");
        GameLoom x = with(LONGEST, "b22;p0;nw.");
        due("graft", x.graft(0, 1), 2);
        dueText(x, 2, LONGEST.substring(0, 46) + "nw.");
        due("the other way", x.graft(1, 0), 3);
        dueText(x, 3, "b22;p0;" + LONGEST.substring(46));
        due("of itself", x.graft(0, 0), 4);
        dueText(x, 4, LONGEST);

        sentence("DROP: without its k-th MOVE, or its k-th END.");
        GameLoom y = with(LONGEST);
        due("the sixth MOVE", y.drop(0, 5, false), 1);
        dueText(y, 1, LONGEST.replace(",p9!", ""));
        due("the first MOVE", y.drop(0, 0, false), 2);
        dueText(y, 2, LONGEST.replace("p0!,", ""));
        due("the sixth END", y.drop(0, 5, true), 3);
        dueText(y, 3, LONGEST.replace(",m60", ""));
        due("the first END", y.drop(0, 0, true), 4);
        dueText(y, 4, LONGEST.replace("r4w,", ""));
        due("no seventh MOVE", y.drop(0, 6, false), -1);
        due("no seventh END", y.drop(0, 6, true), -1);

        sentence("CHANGE: the i-th digit of its text becomes another one.");
        GameLoom z = with(LONGEST);
        due("the last digit", z.change(0, 10, 9), 1);
        dueText(z, 1, LONGEST.replace("m60", "m69"));
        due("none behind it", z.change(0, 11, 9), -1);
        due("the first one", z.change(0, 0, 5), -21);
        due("the same one", z.change(0, 2, 0), 2);
        dueText(z, 2, LONGEST);

        sentence("MIRROR: the MOVES the other way round.");
        GameLoom w = with(LONGEST, ROWS);
        due("six", w.mirror(0), 2);
        dueText(w, 2, "b44;iabxxabxxabxxabxx;p9!,uo!,tq!,hd!,so!,p0!;r4w,r3l,r2d,k1w,k9l,m60.");
        due("one", w.mirror(1), 3);
        dueText(w, 3, ROWS);

        sentence("What comes is read as a TEXT, and is a GAME more.");
        GameLoom v = with("b22;iaxxb;p1,so;r2w,m45,k3l.");
        due("too few begin", v.change(0, 0, 3), -20 - 9);
        due("a game less wide", with("b33;iaxxxxxxxb;so;m60.").change(0, 0, 2), -20 - 11);
        due("no game more", v.count(0), 1);
        due("a game more", v.change(0, 2, 2), 1);
        due("two", v.count(0), 2);
        due("it plays", v.start(1), 4);
    }

    private static void kinAndFalls() {
        sentence("KIN: WAYS 1 to n of two GAMES from their beginnings are all the same.");
        GameLoom x = with("b32;p0;nw.", "b32;p0;m05.", "b22;so;nw.", "b22;p0;m01.", AT_3000, AT_3001);
        due("to the fifth", x.kin(0, 1, 5), 1);
        due("not the sixth", x.kin(0, 1, 6), 0);
        due("not the first", x.kin(2, 3, 1), 0);
        due("no ways at all", x.kin(2, 2, 6), 1);
        due("3000 and fewer", x.kin(4, 0, 3), 0);
        due("3001 and fewer", x.kin(5, 0, 3), -5);
        due("fewer and 3001", x.kin(0, 5, 3), -5);
        due("3001 to two moves", x.kin(5, 5, 2), 1);

        sentence("0 empty CELLS (all MOVES are PUTS), 1 pieces (all HOP or TAKE); -9 none of these.");
        String[] moves = {"p0", "p9!,p1", "hq", "to", "ho,tq!", "so", "uq", "p0,hq", "tq,p0", "hq,so", "tq,uo",
            "p0,p0,p0,p0,p0,so", "tq,hq,tq,hq,tq,uq"};
        int[] falls = {0, 0, 1, 1, 1, -9, -9, -9, -9, -9, -9, -9, -9};
        for (int i = 0; i < moves.length; i++) {
            due("falls of " + moves[i], with("b22;" + moves[i] + ";nw.").of(0, 5), falls[i]);
        }
    }

    private static void puzzles() {
        sentence("the first move ahead of which there are two or more, and just one is such that the other side LOSES");
        GameLoom x = with(FORK, "b22;iaaax;p0;k4w.", "b22;iabxx;p0;yw.", "b22;p0;k1w.", "b22;p0;m04.");
        due("one of five", x.puzzle(0, 1, 1), 0);
        due("the only one there is", x.puzzle(1, 1, 1), -9);
        due("one of two", x.puzzle(2, 1, 1), 0);
        due("all of them", x.puzzle(3, 1, 1), -9);
        due("none of them", x.puzzle(4, 1, 4), -9);
        due("none where A is stuck", with("b22;ibbbb;p0;gw.").puzzle(0, 1, 4), -9);
        due("the last move but one", with("b22;p0;k2w.").puzzle(0, 1, 1), -9);
        for (int seed = 0; seed < 12; seed++) {
            for (int n = 1; n <= 4; n++) {
                String text = "b23;p0,so;r3w,nl,m40.";
                due("by hand", with(text).puzzle(0, seed, n), byHand(text, seed, n, true));
                due("blunder by hand", with(text).blunder(0, seed, n), byHand(text, seed, n, false));
            }
        }

        sentence("PUZZLE by LOOK n (1 .. 4); -9 (a SPENT place is none).");
        due("at 3000", with(AT_3000).puzzle(0, 0, 3), 0);
        due("at 3001", with(AT_3001).puzzle(0, 0, 3), byHand(AT_3001, 0, 3, true));
        due("not the first place", with(AT_3001).puzzle(0, 0, 3) == 0 ? 1 : 0, 0);
        due("at 3001 to two", with(AT_3001).puzzle(0, 0, 2), 0);
    }

    private static void blunders() {
        sentence("(the other side has more than 0 by LOOK n less 1 behind it)");
        GameLoom x = with(FORK, "b22;p0;k1w.", "b22;p0;m04.", "b22;iaxxx;p0,so;k2w,k1d.");
        for (int seed : SEEDS) {
            long lot = (((seed & 0xFFFFFFFFL) * 1103515245L + 12345) & 0xFFFFFFFFL) >> 8;
            due("fork from " + seed, x.blunder(0, seed, 1), lot % 5 == 0 ? -9 : 0);
            due("drawn instead of won from " + seed, x.blunder(3, seed, 1), lot % 5 < 3 ? -9 : 0);
        }
        due("all win", x.blunder(1, 1, 4), -9);
        due("none won", x.blunder(2, 1, 4), -9);
        due("none where A is stuck", with("b22;ibbbb;p0;gw.").blunder(0, 1, 4), -9);

        sentence("BLUNDER by LOOK n (1 .. 4); -9 (a SPENT place is none).");
        due("at 3000", with(AT_3000).blunder(0, 0, 3), 0);
        due("at 3001", with(AT_3001).blunder(0, 0, 3), byHand(AT_3001, 0, 3, false));
        due("not the first place", with(AT_3001).blunder(0, 0, 3) == 0 ? 1 : 0, 0);
        due("at 3001 to two", with(AT_3001).blunder(0, 0, 2), 0);
    }

    private static void pies() {
        sentence("PIE: of all first moves, those behind which the other side has 0, 1, 2 by LOOK n.");
        String most = "b43;iaxbabxxxxbbx;sq,p9;r3w.";
        GameLoom x = with(most, "b44;ibxxxxxxaaxxxbbxx;p5,sd;r4w.", "b33;iaxbbxxxxb;so,p7;r3w.", "b22;ibbbb;p0;gw.",
            "b22;p0;k1w.", "b22;p0;k1l.", "b22;p0;m01.", "b44;p0;k1w.");
        due("3000 behind one of them", mostBehind(most, 3), 3000);
        due("all of them", x.pie(0, 3, 0) + x.pie(0, 3, 1) + x.pie(0, 3, 2), 10);
        due("3001 behind the last of them", x.pie(1, 3, 1), -5);
        due("fewer by two", x.pie(1, 2, 1), 14);
        due("3001 behind the first of them", x.pie(2, 4, 1), -5);
        due("fewer by three", x.pie(2, 3, 0) + x.pie(2, 3, 1) + x.pie(2, 3, 2), 6);
        for (int what = 0; what < 3; what++) {
            due("no first move", x.pie(3, 4, what), 0);
            due("all won at once", x.pie(4, 0, what), what == 0 ? 4 : 0);
            due("all lost at once", x.pie(5, 0, what), what == 2 ? 4 : 0);
            due("all drawn at once", x.pie(6, 4, what), what == 1 ? 4 : 0);
            due("what ended has no ways", x.pie(7, 4, what), what == 0 ? 16 : 0);
        }
    }

    /** The most WAYS 1 to n together behind a first move. */
    private static int mostBehind(String text, int n) {
        GameLoom x = playing(text);
        int most = 0;
        for (int i = 0; i < x.move(-1); i++) {
            x.play(i);
            int together = 0;
            for (int w = 1; w <= n; w++) {
                together += x.ways(w);
            }
            most = Math.max(most, together);
            x.back();
        }
        return most;
    }

    private static void niches() {
        sentence("NICHES: by CELLS of the board (4 .. 16).");
        GameLoom x = with("b22;p0;nw.", "b23;p0;m05.", "b32;p0;m05.", "b24;p0;nw.", "b33;p0;nw.", "b34;p0;nw.",
            "b43;p0;m05.", "b44;p0;nw.");
        int[] kept = {0, 1, 1, 3, 4, 5, 5, 7};
        int[] niches = {1, 2, 2, 3, 4, 5, 5, 6};
        for (int g = 0; g < 8; g++) {
            due("keep " + g, x.keep(g, 1), kept[g]);
            due("niches with " + g, x.count(3), niches[g]);
        }
        int[] there = {0, -9, 1, -9, 3, 4, -9, -9, 5, -9, -9, -9, 7};
        for (int cells = 4; cells <= 16; cells++) {
            due("niche " + cells, x.niche(cells), there[cells - 4]);
        }

        sentence("a GAME is kept in its NICHE if there is none, or its WORTH is greater");
        due("none, and worth nothing", with("b22;ibbbb;p0;gw.").keep(0, 1), 0);
        GameLoom y = with("b22;ibbbb;p0;gw.", "b22;p0;m01.", "b22;p0;m01.", "b22;p0;m02.");
        due("worth 0", y.keep(0, 1), 0);
        due("worth 1 is greater", y.keep(1, 1), 1);
        due("worth 1 is not", y.keep(2, 1), 1);
        due("worth 2 is", y.keep(3, 1), 3);
        due("worth 0 is not", y.keep(0, 1), 3);

        sentence("the lesser of the wins of both sides, times 10, and moves together by 10, cut.");
        GameLoom z = with("b23;p0;m05.", "b23;p0;r3d.", "b23;p0;k3w.");
        due("50 moves", z.measure(0, 10, 0, 0, 3), 50);
        due("57 moves", z.measure(1, 10, 0, 0, 3), 57);
        due("60 moves", z.measure(1, 10, 5, 0, 3), 60);
        due("kept with 5", z.keep(0, 0), 0);
        due("57 are 5", z.keep(1, 0), 0);
        due("wins of one side are none", z.keep(2, 0), 0);
        due("60 are 6", z.keep(1, 5), 1);
        worthOfRows();
    }

    /** Worth 37 from 3: 3 times 10, and 75 moves; as a GAME of 37 moves that is always drawn. */
    private static void worthOfRows() {
        GameLoom x = with(ROWS);
        due("the wins of A", x.measure(0, 10, 3, 0, 0), 4);
        due("the wins of B", x.measure(0, 10, 3, 0, 1), 3);
        due("the moves", x.measure(0, 10, 3, 0, 3), 75);
        for (int worth = 36; worth <= 38; worth++) {
            String drawn = "b33;iaxxxxxxxb;so;m" + worth + ".";
            GameLoom y = with(ROWS, drawn);
            y.keep(0, 3);
            due("37, then " + worth, y.keep(1, 3), worth > 37 ? 1 : 0);
            GameLoom z = with(ROWS, drawn);
            z.keep(1, 3);
            due(worth + ", then 37", z.keep(0, 3), worth < 37 ? 0 : 1);
            GameLoom w = with("b33;p0;r3l.", drawn);
            w.keep(0, 3);
            due("the lesser of both is the same", w.keep(1, 3), worth > 37 ? 1 : 0);
        }
    }
}
