import java.util.function.Supplier;
import java.util.function.ToIntFunction;

/** The boundary cases of the document's promises, sentence by sentence, and of its REFUSALS. */
public final class PromiseEdgeTest extends Checks {
    private static final int LEAST = Integer.MIN_VALUE;
    private static final int GREATEST = Integer.MAX_VALUE;
    /** Two MOVES, two ENDS, three digits. */
    private static final String PAIRS = "b22;p0,so;nw,gl.";
    private static final String SIX_PUTS = "b32;p0;nw.";

    private static final Supplier<GameLoom> NEW = GameLoom::new;
    private static final Supplier<GameLoom> IDLE = PromiseEdgeTest::idle;
    private static final Supplier<GameLoom> GOING = PromiseEdgeTest::going;
    private static final Supplier<GameLoom> ENDED = PromiseEdgeTest::ended;
    private static final Supplier<GameLoom> SPENT = PromiseEdgeTest::spent;
    private static final Supplier<GameLoom> CROWDED = PromiseEdgeTest::crowded;
    private static final Supplier<GameLoom> FULL_TEXT = PromiseEdgeTest::fullText;

    public static void main(String[] args) {
        aNewObject();
        feed();
        game();
        of();
        letter();
        start();
        move();
        play();
        back();
        state();
        cell();
        look();
        best();
        ways();
        match();
        measurePlayers();
        measureWhats();
        verdicts();
        distance();
        whatFor();
        graft();
        drop();
        change();
        mirror();
        kin();
        puzzle();
        blunder();
        pie();
        keep();
        niche();
        count();
        fiveHundredAndTwelve();
        everyPromiseIsQuoted();
        finish("PromiseEdgeTest");
    }

    /** Three GAMES, no PLAY. */
    private static GameLoom idle() {
        GameLoom x = with(ROWS, FORK, PAIRS);
        feedAll(x, "b22");
        return x;
    }

    /** Three GAMES, a PLAY of the first with two moves done, a kept GAME, a TEXT that is begun. */
    private static GameLoom going() {
        GameLoom x = idle();
        x.keep(1, 3);
        x.start(0);
        x.play(4);
        x.play(0);
        return x;
    }

    /** A PLAY that ended behind three moves. */
    private static GameLoom ended() {
        GameLoom x = with(THREE_MOVES, ROWS);
        x.start(0);
        x.play(3);
        x.play(0);
        x.play(0);
        return x;
    }

    /** A PLAY whose LOOK 3 is SPENT. */
    private static GameLoom spent() {
        GameLoom x = with(AT_3001, ROWS);
        x.start(0);
        return x;
    }

    /** Eight GAMES, the first with two MOVES and two ENDS, and a TEXT without a FAULT. */
    private static GameLoom crowded() {
        GameLoom x = full(PAIRS);
        x.start(1);
        x.play(4);
        feedAll(x, ROWS);
        return x;
    }

    private static GameLoom fullText() {
        GameLoom x = with(ROWS);
        feedAll(x, times("b", 90));
        return x;
    }

    /** All that can be seen of an object without a refusal, but for how many of those there were. */
    private static String seen(GameLoom x) {
        StringBuilder all = new StringBuilder();
        for (int what = 0; what <= 3; what++) {
            all.append(x.count(what)).append(' ');
        }
        int games = x.count(0);
        for (int g = 0; g < games; g++) {
            for (int what = 0; what <= 5; what++) {
                all.append(x.of(g, what)).append(' ');
            }
        }
        for (int i = 0; games > 0 && i < 12; i++) {
            all.append(x.letter(0, i)).append(' ').append(x.letter(games - 1, i)).append(' ');
        }
        for (int cells = 4; cells <= 16; cells++) {
            all.append(x.niche(cells)).append(' ');
        }
        if (x.count(2) >= 0) {
            seenOfPlay(x, all);
        }
        return all.toString();
    }

    private static void seenOfPlay(GameLoom x, StringBuilder all) {
        for (int what = 0; what <= 8; what++) {
            all.append(x.state(what)).append(' ');
        }
        int moves = x.move(-1);
        for (int i = 0; i < moves; i++) {
            all.append(x.move(i)).append(' ');
        }
        for (int c = 0; c < 4; c++) {
            all.append(x.cell(c)).append(' ');
        }
    }

    /** The call is refused so, is counted so, and changes nothing else. */
    private static void refused(int refusal, Supplier<GameLoom> from, ToIntFunction<GameLoom> call) {
        GameLoom x = from.get();
        String before = seen(x);
        int[] counted = new int[7];
        for (int r = 1; r <= 6; r++) {
            counted[r] = x.count(10 + r);
        }
        counted[-refusal]++;
        due("the refusal", call.applyAsInt(x), refusal);
        for (int r = 1; r <= 6; r++) {
            due("how many -" + r + " of " + refusal, x.count(10 + r), counted[r]);
        }
        due("what is seen behind " + refusal, seen(x).equals(before) ? 1 : 0, 1);
    }

    /** The call is answered, and no refusal is counted. */
    private static void answered(int want, Supplier<GameLoom> from, ToIntFunction<GameLoom> call) {
        GameLoom x = from.get();
        int before = refusals(x);
        due("the answer", call.applyAsInt(x), want);
        due("no refusal", refusals(x), before);
    }

    private static int refusals(GameLoom x) {
        int all = 0;
        for (int r = 11; r <= 16; r++) {
            all += x.count(r);
        }
        return all;
    }

    private static Supplier<GameLoom> playOf(String text, int... moves) {
        return () -> playing(text, moves);
    }

    private static void aNewObject() {
        sentence("`GameLoom()`: No GAMES, no PLAY.");
        due("games", new GameLoom().count(0), 0);
        due("text", new GameLoom().count(1), 0);
        due("play", new GameLoom().count(2), -9);
        due("niches", new GameLoom().count(3), 0);
        due("refusals", refusals(new GameLoom()), 0);
        refused(-1, NEW, x -> x.start(0));
        refused(-3, NEW, x -> x.move(-1));
        refused(-3, NEW, x -> x.back());
    }

    private static long bytesOf(String text) {
        long bytes = 0;
        for (int i = text.length() - 1; i >= 0; i--) {
            bytes = bytes << 8 | text.charAt(i);
        }
        return bytes;
    }

    private static void feed() {
        sentence("n (1 .. 8) bytes come to the TEXT, the lowest first: how many it has.");
        for (int n = 1; n <= 8; n++) {
            GameLoom x = new GameLoom();
            String text = SIX_PUTS.substring(0, n);
            due("feed " + n, x.feed(n, bytesOf(text) | (n < 8 ? -1L << 8 * n : 0)), n);
            feedAll(x, SIX_PUTS.substring(n));
            due("text", x.count(1), SIX_PUTS.length());
            due("game of " + n, x.game(), 0);
            dueText(x, 0, SIX_PUTS);
        }
        due("all ones", new GameLoom().feed(8, -1L), 8);
        due("the least", new GameLoom().feed(8, Long.MIN_VALUE), 8);

        sentence("-4; -6 (above 90, too).");
        for (int n : new int[] {0, -1, -8, LEAST}) {
            refused(-4, GOING, x -> x.feed(n, bytesOf(";p0;nw.")));
            refused(-4, FULL_TEXT, x -> x.feed(n, 0));
        }
        for (int n : new int[] {9, 90, GREATEST}) {
            refused(-6, GOING, x -> x.feed(n, bytesOf(";p0;nw.")));
            refused(-6, FULL_TEXT, x -> x.feed(n, 0));
        }
        for (int n = 1; n <= 8; n++) {
            int more = n;
            refused(-6, FULL_TEXT, x -> x.feed(more, 0));
            GameLoom x = new GameLoom();
            feedAll(x, times("b", 91 - n));
            due("one too many by " + n, x.feed(n, 0), -6);
            due("nothing came", x.count(1), 91 - n);
            due("just 90 by one less", n > 1 ? x.feed(n - 1, 0) : 90, 90);
        }
        GameLoom y = new GameLoom();
        feedAll(y, "b32;p0");
        y.feed(9, bytesOf("zzzzzzzz"));
        y.feed(0, bytesOf("zzzzzzzz"));
        feedAll(y, ";nw.");
        due("what was refused did not come", y.game(), 0);
        dueText(y, 0, SIX_PUTS);
    }

    private static void game() {
        sentence("The TEXT, which has none then, becomes a GAME: its number;");
        GameLoom x = new GameLoom();
        for (int i = 0; i < 8; i++) {
            feedAll(x, SIX_PUTS);
            due("its text", x.count(1), SIX_PUTS.length());
            due("its number", x.game(), i);
            due("its text is gone", x.count(1), 0);
            due("so many games", x.count(0), i + 1);
        }

        sentence("or, if it has a FAULT, -20 less its place (nothing is counted).");
        answered(-20, NEW, n -> n.game());
        answered(-20, NEW, n -> enter(n, "z"));
        answered(-21, NEW, n -> enter(n, "b"));
        answered(-90, NEW, n -> enter(n, LONGEST + times("z", 20)));
        GameLoom y = with(ROWS);
        due("a fault", enter(y, "b32;p0;nw"), -29);
        due("has none then", y.count(1), 0);
        due("no game more", y.count(0), 1);
        due("again empty", y.game(), -20);
        due("another text", enter(y, SIX_PUTS), 1);

        sentence("becomes a GAME: its number; or, if it has a FAULT,");
        for (int i = 0; i < LONGEST.length(); i++) {
            afterFault(LONGEST.substring(0, i));
        }
        for (int size = 0; size < 9; size++) {
            afterFault("b" + (2 + size / 3) + (2 + size % 3) + ";z");
        }
        afterFault("b22;iabab;tq,uq,hq,so;r9w.");
        afterFault("b44;p7;k0w.");
        afterFault("b22;p0;nw,gw,yl,k9l,m0z");
        afterFault("b44;ibbbbbbbbbbbbbbbb;sq!,sq!;m99,r4l,r4l,r4l,z");

        sentence("-6 8. (Refused: it stays.)");
        refused(-6, CROWDED, c -> c.game());
        refused(-6, () -> full(ROWS), c -> c.game());
        GameLoom z = full(ROWS);
        feedAll(z, "zzz");
        due("with a fault", z.game(), -6);
        due("it stays", z.count(1), 3);
        due("and can be added to", z.feed(1, 'z'), 4);
        GameLoom w = with(ROWS, ROWS, ROWS, ROWS, ROWS, ROWS, ROWS);
        due("the eighth is a game", enter(w, ROWS), 7);
    }

    /** What was read ahead of a FAULT leaves no trace in the GAME that comes then. */
    private static void afterFault(String faulty) {
        for (String text : new String[] {SIX_PUTS, "b23;p0;yw,r3l.", "b33;p2,so;r3w,k3d,gl."}) {
            GameLoom x = new GameLoom();
            due("a fault in " + faulty, enter(x, faulty) <= -20 ? 1 : 0, 1);
            due("a game behind it", enter(x, text), 0);
            GameLoom y = with(text);
            due("what is seen of " + text, seen(x).equals(seen(y)) ? 1 : 0, 1);
            due("its first moves", x.start(0), y.start(0));
            due("its first move", x.move(0), y.move(0));
            dueText(x, 0, text);
            for (int what : new int[] {0, 1, 2, 3, 10, 20}) {
                due("its matches", x.measure(0, 20, 1, 0, what), y.measure(0, 20, 1, 0, what));
            }
            due("its board", x.state(5), 0);
        }
    }

    private static void of() {
        sentence("Of a GAME: 0 width, 1 height, 2 MOVES, 3 ENDS, 4 bytes of its text, 5 FALLS. -1; -2.");
        for (int g : new int[] {-1, 3, 8, LEAST, GREATEST}) {
            refused(-1, GOING, x -> x.of(g, 0));
            refused(-1, GOING, x -> x.of(g, 6));
            refused(-1, GOING, x -> x.of(g, -1));
        }
        refused(-1, NEW, x -> x.of(0, 0));
        for (int what : new int[] {-1, 6, LEAST, GREATEST}) {
            refused(-2, GOING, x -> x.of(2, what));
        }
        int[] want = {2, 2, 2, 2, 16, -9};
        for (int what = 0; what <= 5; what++) {
            int asked = what;
            answered(want[what], GOING, x -> x.of(2, asked));
        }
    }

    private static void letter() {
        sentence("Byte i of its text; -9 none. -1; -4.");
        answered('b', GOING, x -> x.letter(2, 0));
        answered('.', GOING, x -> x.letter(2, 15));
        for (int i : new int[] {16, 89, 90, 91, GREATEST}) {
            answered(-9, GOING, x -> x.letter(2, i));
        }
        for (int i : new int[] {-1, LEAST}) {
            refused(-4, GOING, x -> x.letter(2, i));
        }
        for (int g : new int[] {-1, 3, LEAST, GREATEST}) {
            refused(-1, GOING, x -> x.letter(g, 0));
            refused(-1, GOING, x -> x.letter(g, -1));
        }
    }

    private static void start() {
        sentence("THE PLAY begins anew, of a GAME: how many moves there are. -1.");
        for (int g : new int[] {-1, 3, LEAST, GREATEST}) {
            refused(-1, GOING, x -> x.start(g));
            refused(-1, IDLE, x -> x.start(g));
        }
        answered(9, GOING, x -> x.start(0));
        answered(5, GOING, x -> x.start(1));
        answered(9, () -> with(ROWS), x -> x.start(0));
        answered(0, () -> with("b22;ibbbb;p0;nw."), x -> x.start(0));
        GameLoom y = going();
        y.start(0);
        due("anew", y.state(0), 0);
        dueCells(y, "xxxxxxxxx");
        due("nothing to take back", y.back(), -3);
        GameLoom z = ended();
        due("one that ended begins anew", z.start(0), 4);
        due("and goes on", z.state(2), 0);
        GameLoom w = going();
        w.start(3);
        due("refused: the way back stays", w.back(), 1);
        due("and the rest of it", w.back(), 0);
    }

    private static void move() {
        sentence("How many moves there are (i -1; 0 if it ended); the i-th: 10000 k, 100 from and to; -9 none such.");
        answered(7, GOING, x -> x.move(-1));
        answered(9901, GOING, x -> x.move(0));
        answered(9908, GOING, x -> x.move(6));
        for (int i : new int[] {7, 8, 256, GREATEST}) {
            answered(-9, GOING, x -> x.move(i));
        }
        answered(0, ENDED, x -> x.move(-1));
        answered(-9, ENDED, x -> x.move(0));
        answered(0, playOf("b22;ibbbb;p0;nw."), x -> x.move(-1));
        answered(-9, playOf("b22;ibbbb;p0;nw."), x -> x.move(0));

        sentence("-3 no PLAY; -4.");
        for (int i : new int[] {-2, -1, 0, 99, LEAST, GREATEST}) {
            refused(-3, IDLE, x -> x.move(i));
        }
        for (int i : new int[] {-2, -3, LEAST}) {
            refused(-4, GOING, x -> x.move(i));
            refused(-4, ENDED, x -> x.move(i));
        }
    }

    private static void play() {
        sentence("The i-th move is done: how many were done. -3 no PLAY, it ended; -4; -6 none such.");
        answered(3, GOING, x -> x.play(0));
        answered(3, GOING, x -> x.play(6));
        for (int i : new int[] {-1, 0, 99, LEAST, GREATEST}) {
            refused(-3, IDLE, x -> x.play(i));
            refused(-3, ENDED, x -> x.play(i));
            refused(-3, playOf("b22;ibbbb;p0;nw."), x -> x.play(i));
        }
        for (int i : new int[] {-1, -2, LEAST}) {
            refused(-4, GOING, x -> x.play(i));
        }
        for (int i : new int[] {7, 8, 256, GREATEST}) {
            refused(-6, GOING, x -> x.play(i));
        }
        GameLoom y = going();
        y.play(7);
        due("refused: the way back stays", y.back(), 1);
        dueCells(y, "xxxxaxxxx");
    }

    private static void back() {
        sentence("The latest move is taken back: how many are left. -3 none.");
        refused(-3, NEW, x -> x.back());
        refused(-3, IDLE, x -> x.back());
        refused(-3, playOf(ROWS), x -> x.back());
        refused(-3, playOf("b22;ibbbb;p0;nw."), x -> x.back());
        answered(1, GOING, x -> x.back());
        answered(2, ENDED, x -> x.back());
        GameLoom x = playing(ENDLESS);
        int[] codes = new int[61];
        for (int i = 0; i < 60; i++) {
            codes[i] = x.state(5);
            x.play(0);
        }
        for (int i = 59; i >= 0; i--) {
            due("back from 60", x.back(), i);
            due("as it was at " + i, x.state(5), codes[i]);
            due("it goes on at " + i, x.state(2), 0);
        }
        due("none is left", x.back(), -3);
        due("how many were refused", x.count(13), 1);
    }

    private static void state() {
        sentence("3 who won (0, 1; 2 drawn; -9 it goes on), 4 the END (-9)");
        int[] ends = {3, 1, 1, 2, 0, 2 + 3 + 27, 1 + 6 + 9, 2, 1};
        for (int what = 0; what <= 8; what++) {
            int asked = what;
            answered(ends[what], ENDED, x -> x.state(asked));
        }
        answered(-9, GOING, x -> x.state(3));
        answered(-9, GOING, x -> x.state(4));
        answered(1, playOf("b22;p0;k1l.", 0), x -> x.state(3));
        answered(-9, playOf("b22;iaaax;p0;k9w.", 0), x -> x.state(4));
        answered(5, playOf("b22;p0;k9w,k9w,k9w,k9w,k9w,m00.", 0), x -> x.state(4));
        answered(0, playOf("b22;p0;m04."), x -> x.state(7));
        answered(16, playOf("b44;i" + times("b", 16) + ";p0;nw."), x -> x.state(8));

        sentence("5 CODE, 6 NAME, 7 A's, 8 B's pieces. -3; -2.");
        for (int what : new int[] {-1, 9, LEAST, GREATEST}) {
            refused(-2, GOING, x -> x.state(what));
            refused(-2, ENDED, x -> x.state(what));
            refused(-3, IDLE, x -> x.state(what));
        }
        refused(-3, NEW, x -> x.state(0));
    }

    private static void cell() {
        sentence("A CELL: 0 nothing, 1, 2. -3; -1.");
        answered(2, GOING, x -> x.cell(0));
        answered(1, GOING, x -> x.cell(4));
        answered(0, GOING, x -> x.cell(8));
        answered(2, playOf("b44;i" + times("b", 16) + ";p0;nw."), x -> x.cell(15));
        for (int c : new int[] {-1, 9, 15, 16, LEAST, GREATEST}) {
            refused(-1, GOING, x -> x.cell(c));
            refused(-3, IDLE, x -> x.cell(c));
        }
        refused(-1, playOf("b44;p0;nw."), x -> x.cell(16));
        refused(-1, ENDED, x -> x.cell(4));
        refused(-3, NEW, x -> x.cell(0));
    }

    private static void look() {
        sentence("LOOK n. -3 (ended, too); -4; -6; -5.");
        answered(1, playOf(SIX_PUTS), x -> x.look(0));
        answered(0, playOf(SIX_PUTS), x -> x.look(6));
        dueRefusedLook((x, n) -> x.look(n), -1);
        refused(-5, SPENT, x -> x.look(3));
        refused(-5, SPENT, x -> x.look(6));
        answered(1, SPENT, x -> x.look(0));
    }

    private static void best() {
        sentence("BEST by LOOK n (1 .. 6). -3 (ended, too); -4; -6; -5.");
        answered(0, playOf(SIX_PUTS), x -> x.best(1));
        answered(0, playOf(SIX_PUTS), x -> x.best(6));
        dueRefusedLook((x, n) -> x.best(n), 0);
        refused(-5, SPENT, x -> x.best(3));
        refused(-5, SPENT, x -> x.best(6));
        answered(WINS_AT_3001, SPENT, x -> x.best(2));
    }

    private interface Look {
        int at(GameLoom x, int n);
    }

    /** Below and above, with no PLAY, with one that ended, and where more is SPENT. */
    private static void dueRefusedLook(Look look, int below) {
        for (int n : new int[] {below, below - 1, LEAST}) {
            refused(-4, GOING, x -> look.at(x, n));
            refused(-4, SPENT, x -> look.at(x, n));
        }
        for (int n : new int[] {7, 8, GREATEST}) {
            refused(-6, GOING, x -> look.at(x, n));
            refused(-6, SPENT, x -> look.at(x, n));
        }
        for (int n : new int[] {below, 1, 6, 7, LEAST, GREATEST}) {
            refused(-3, NEW, x -> look.at(x, n));
            refused(-3, IDLE, x -> look.at(x, n));
            refused(-3, ENDED, x -> look.at(x, n));
            refused(-3, playOf("b22;ibbbb;p0;nw."), x -> look.at(x, n));
        }
    }

    private static void ways() {
        sentence("WAYS n (1 .. 6). -3 no PLAY; -4; -6; -5.");
        answered(6, playOf(SIX_PUTS), x -> x.ways(1));
        answered(720, playOf(SIX_PUTS), x -> x.ways(6));
        for (int n : new int[] {0, -1, LEAST}) {
            refused(-4, GOING, x -> x.ways(n));
            refused(-4, ENDED, x -> x.ways(n));
            refused(-3, IDLE, x -> x.ways(n));
        }
        for (int n : new int[] {7, 8, GREATEST}) {
            refused(-6, GOING, x -> x.ways(n));
            refused(-6, ENDED, x -> x.ways(n));
            refused(-6, SPENT, x -> x.ways(n));
            refused(-3, IDLE, x -> x.ways(n));
        }
        for (int n = 1; n <= 6; n++) {
            int asked = n;
            answered(0, ENDED, x -> x.ways(asked));
            refused(-3, NEW, x -> x.ways(asked));
        }
        refused(-5, SPENT, x -> x.ways(3));
        refused(-5, SPENT, x -> x.ways(6));
    }

    private static void match() {
        sentence("A MATCH: 10 times its moves, and who won (2 drawn). -1; -2.");
        answered(2, () -> with("b22;ibbbb;p0;nw."), x -> x.match(0, 0, 0, 1));
        answered(602, () -> with(ENDLESS), x -> x.match(0, 3, 3, 1));
        answered(10, () -> with("b22;p0;k1w."), x -> x.match(0, 0, 0, LEAST));
        answered(11, () -> with("b22;p0;k1l."), x -> x.match(0, 0, 0, GREATEST));
        for (int p : new int[] {-1, 4, LEAST, GREATEST}) {
            refused(-2, GOING, x -> x.match(0, p, 0, 1));
            refused(-2, GOING, x -> x.match(0, 3, p, 1));
            refused(-1, GOING, x -> x.match(3, p, 0, 1));
            refused(-1, GOING, x -> x.match(-1, 0, p, 1));
        }
        for (int g : new int[] {-1, 3, LEAST, GREATEST}) {
            refused(-1, GOING, x -> x.match(g, 0, 0, 1));
        }
    }

    private static void measurePlayers() {
        sentence("PLAYERS 10 a and b;");
        for (int players = -35; players <= 60; players++) {
            int asked = players;
            boolean known = players >= 0 && players / 10 <= 3 && players % 10 <= 3;
            GameLoom x = with("b22;p0;k1w.");
            due("players " + players, x.measure(0, 2, 1, asked, 0), known ? 2 : -2);
        }
        for (int players : new int[] {-1, 4, 40, 100, 1000, LEAST, GREATEST}) {
            refused(-2, GOING, x -> x.measure(0, 2, 1, players, 0));
            refused(-2, GOING, x -> x.measure(0, 0, 1, players, 0));
            refused(-2, GOING, x -> x.measure(0, 21, 1, players, 0));
            refused(-1, GOING, x -> x.measure(3, 0, 1, players, 7));
        }
        GameLoom y = with(ROWS);
        for (int a = 0; a <= 3; a++) {
            for (int b = 0; b <= 3; b++) {
                due("a plays A, b plays B", y.measure(0, 1, 9, 10 * a + b, 3), y.match(0, a, b, 9) / 10);
            }
        }
    }

    private static void measureWhats() {
        sentence("10 + k how often MOVE k was used, 20 + k how many END k ended.");
        String six = "b22;p0,p0,p0,p0,p0,p0;m01,m01,m01,m01,m01,m01.";
        for (int what = -3; what <= 40; what++) {
            int asked = what;
            GameLoom x = with(PAIRS, six);
            boolean seven = what >= 0 && what <= 6;
            due("what " + what + " of two", x.measure(0, 1, 1, 0, asked) == -2 ? 1 : 0,
                seven || what == 10 || what == 11 || what == 20 || what == 21 ? 0 : 1);
            due("what " + what + " of six", x.measure(1, 1, 1, 0, asked) == -2 ? 1 : 0,
                seven || what >= 10 && what <= 15 || what >= 20 && what <= 25 ? 0 : 1);
        }
        GameLoom y = with(six);
        int used = 0;
        for (int k = 0; k < 6; k++) {
            used += y.measure(0, 20, 1, 0, 10 + k);
            due("END " + k, y.measure(0, 20, 1, 0, 20 + k), k == 0 ? 20 : 0);
        }
        due("all MOVES", used, 20);

        sentence("-1; -2 (PLAYERS, what; MOVES, ENDS that there are not); -4; -6 n.");
        for (int what : new int[] {-1, 7, 9, 12, 19, 22, 30, LEAST, GREATEST}) {
            refused(-2, GOING, x -> x.measure(2, 1, 1, 0, what));
            refused(-2, GOING, x -> x.measure(2, 0, 1, 0, what));
            refused(-2, GOING, x -> x.measure(2, 21, 1, 0, what));
        }
        for (int n : new int[] {0, -1, LEAST}) {
            refused(-4, GOING, x -> x.measure(0, n, 1, 0, 0));
        }
        for (int n : new int[] {21, 22, GREATEST}) {
            refused(-6, GOING, x -> x.measure(0, n, 1, 0, 0));
        }
        for (int g : new int[] {-1, 3, LEAST, GREATEST}) {
            refused(-1, GOING, x -> x.measure(g, 1, 1, 0, 0));
            refused(-1, GOING, x -> x.measure(g, 21, 1, 44, 99));
        }
        answered(1, () -> with("b22;p0;k1w."), x -> x.measure(0, 1, 1, 0, 0));
        answered(20, () -> with("b22;p0;k1w."), x -> x.measure(0, 20, 1, 0, 0));
    }

    private static void verdicts() {
        sentence("VERDICTS. -1.");
        for (int g : new int[] {-1, 3, LEAST, GREATEST}) {
            refused(-1, GOING, x -> x.verdicts(g, 1));
        }
        for (int z : new int[] {LEAST, GREATEST, GREATEST - 5, -1}) {
            GameLoom x = with("b22;p0;k1w.");
            due("verdicts from " + z, x.verdicts(0, z), 1 + 8);
        }
    }

    private static void distance() {
        sentence("DISTANCE. -1.");
        for (int g : new int[] {-1, 3, LEAST, GREATEST}) {
            refused(-1, GOING, x -> x.distance(g, 0, 1));
            refused(-1, GOING, x -> x.distance(0, g, 1));
            refused(-1, GOING, x -> x.distance(g, g, 1));
        }
        for (int z : new int[] {LEAST, GREATEST, GREATEST - 5, -1}) {
            GameLoom x = with(ROWS, "b33;p3,so;r3w,nl,m40.");
            int far = Math.abs(x.measure(0, 10, z, 0, 0) - x.measure(1, 10, z, 0, 0))
                + Math.abs(x.measure(0, 10, z, 0, 1) - x.measure(1, 10, z, 0, 1))
                + Math.abs(x.measure(0, 10, z, 0, 3) / 10 - x.measure(1, 10, z, 0, 3) / 10);
            due("distance from " + z, x.distance(0, 1, z), far);
        }
    }

    private static void whatFor() {
        sentence("WHAT FOR; -9 it has no other MOVE. -1.");
        answered(-9, GOING, x -> x.whatFor(0, 0, 1));
        for (int k : new int[] {-1, 1, 6, LEAST, GREATEST}) {
            refused(-1, GOING, x -> x.whatFor(0, k, 1));
        }
        for (int k : new int[] {-1, 2, 6, LEAST, GREATEST}) {
            refused(-1, GOING, x -> x.whatFor(2, k, 1));
        }
        for (int g : new int[] {-1, 3, LEAST, GREATEST}) {
            refused(-1, GOING, x -> x.whatFor(g, 0, 1));
        }
        GameLoom x = crowded();
        String before = seen(x);
        due("it needs no room", x.whatFor(0, 1, 1) >= 0 ? 1 : 0, 1);
        due("and changes nothing", seen(x).equals(before) ? 1 : 0, 1);
    }

    private static void graft() {
        sentence("GRAFT: the GAME; or -20 less a FAULT. -1; -6.");
        for (int g : new int[] {-1, 3, LEAST, GREATEST}) {
            refused(-1, GOING, x -> x.graft(g, 0));
            refused(-1, GOING, x -> x.graft(0, g));
        }
        for (int g : new int[] {-1, 8, LEAST, GREATEST}) {
            refused(-1, CROWDED, x -> x.graft(g, 0));
            refused(-1, CROWDED, x -> x.graft(0, g));
        }
        refused(-6, CROWDED, x -> x.graft(0, 7));
        answered(3, GOING, x -> x.graft(2, 2));
        answered(7, PromiseEdgeTest::seven, x -> x.graft(0, 6));
        due("the text at hand stays", textBehind(x -> x.graft(0, 1)), 3);
    }

    private static GameLoom seven() {
        return with(PAIRS, ROWS, FORK, SIX_PUTS, ENDLESS, FULL_BOARD, THREE_MOVES);
    }

    private static int textBehind(ToIntFunction<GameLoom> call) {
        GameLoom x = going();
        due("the game that comes", call.applyAsInt(x), 3);
        due("the play stays", x.state(0), 2);
        due("games", x.count(0), 4);
        return x.count(1);
    }

    private static void drop() {
        sentence("DROP of MOVE k, or END k (end true): the GAME; or -20 less a FAULT. -1 (the last one, too); -6.");
        for (boolean end : new boolean[] {false, true}) {
            for (int g : new int[] {-1, 3, LEAST, GREATEST}) {
                refused(-1, GOING, x -> x.drop(g, 0, end));
            }
            for (int k : new int[] {-1, 2, 6, LEAST, GREATEST}) {
                refused(-1, GOING, x -> x.drop(2, k, end));
                refused(-1, CROWDED, x -> x.drop(0, k, end));
            }
            refused(-1, GOING, x -> x.drop(0, 0, end));
            refused(-1, CROWDED, x -> x.drop(1, 0, end));
            refused(-1, CROWDED, x -> x.drop(8, 0, end));
            refused(-6, CROWDED, x -> x.drop(0, 0, end));
            refused(-6, CROWDED, x -> x.drop(0, 1, end));
            answered(7, PromiseEdgeTest::seven, x -> x.drop(0, 1, end));
            due("the text at hand stays", textBehind(x -> x.drop(2, 0, end)), 3);
        }
        GameLoom y = with("b22;p0,so;nw.", "b22;p0;nw,gl.");
        due("one END is left", y.drop(0, 0, true), -1);
        due("though two MOVES are", y.drop(0, 0, false), 2);
        due("one MOVE is left", y.drop(1, 0, false), -1);
        due("though two ENDS are", y.drop(1, 0, true), 3);
        due("what is left is the last", y.drop(2, 0, false), -1);
    }

    private static void change() {
        sentence("CHANGE of digit i to v (0 .. 9): the GAME; or -20 less a FAULT. -1 (no such digit, too); -4; -6.");
        for (int g : new int[] {-1, 3, LEAST, GREATEST}) {
            refused(-1, GOING, x -> x.change(g, 0, 2));
            refused(-1, GOING, x -> x.change(g, 0, -1));
        }
        for (int i : new int[] {-1, 3, 4, 90, LEAST, GREATEST}) {
            refused(-1, GOING, x -> x.change(2, i, 2));
            refused(-1, GOING, x -> x.change(2, i, -1));
            refused(-1, GOING, x -> x.change(2, i, 10));
            refused(-1, CROWDED, x -> x.change(0, i, 2));
        }
        for (int v : new int[] {-1, -2, LEAST}) {
            refused(-4, GOING, x -> x.change(2, 0, v));
            refused(-4, CROWDED, x -> x.change(0, 0, v));
        }
        for (int v : new int[] {10, 11, GREATEST}) {
            refused(-6, GOING, x -> x.change(2, 0, v));
            refused(-6, CROWDED, x -> x.change(0, 0, v));
        }
        refused(-6, CROWDED, x -> x.change(0, 0, 2));
        refused(-6, CROWDED, x -> x.change(0, 0, 9));
        answered(7, PromiseEdgeTest::seven, x -> x.change(0, 0, 4));
        for (int v = 0; v <= 9; v++) {
            int asked = v;
            answered(v >= 2 && v <= 4 ? 3 : -21, GOING, x -> x.change(2, 0, asked));
            answered(v >= 2 && v <= 4 ? 3 : -22, GOING, x -> x.change(2, 1, asked));
            answered(3, GOING, x -> x.change(2, 2, asked));
        }
        due("the text at hand stays", textBehind(x -> x.change(2, 2, 9)), 3);
        GameLoom y = going();
        y.change(2, 0, 9);
        due("a fault leaves the games", y.count(0), 3);
        due("and the text", y.count(1), 3);
        dueText(y, 2, PAIRS);
    }

    private static void mirror() {
        sentence("MIRROR: the GAME. -1; -6.");
        for (int g : new int[] {-1, 3, LEAST, GREATEST}) {
            refused(-1, GOING, x -> x.mirror(g));
        }
        for (int g : new int[] {-1, 8, LEAST, GREATEST}) {
            refused(-1, CROWDED, x -> x.mirror(g));
        }
        refused(-6, CROWDED, x -> x.mirror(0));
        answered(7, PromiseEdgeTest::seven, x -> x.mirror(6));
        due("the text at hand stays", textBehind(x -> x.mirror(2)), 3);
    }

    private static void kin() {
        sentence("KIN to n (1 .. 6): 1, 0. -1; -4; -6; -5 (of one).");
        answered(1, () -> with(SIX_PUTS), x -> x.kin(0, 0, 1));
        answered(1, () -> with(SIX_PUTS), x -> x.kin(0, 0, 6));
        for (int g : new int[] {-1, 3, LEAST, GREATEST}) {
            for (int n : new int[] {0, 1, 6, 7}) {
                refused(-1, GOING, x -> x.kin(g, 0, n));
                refused(-1, GOING, x -> x.kin(0, g, n));
            }
        }
        for (int n : new int[] {0, -1, LEAST}) {
            refused(-4, GOING, x -> x.kin(0, 1, n));
        }
        for (int n : new int[] {7, 8, GREATEST}) {
            refused(-6, GOING, x -> x.kin(0, 1, n));
            refused(-6, SPENT, x -> x.kin(0, 0, n));
        }
        refused(-5, SPENT, x -> x.kin(0, 1, 3));
        refused(-5, SPENT, x -> x.kin(1, 0, 3));
        refused(-5, SPENT, x -> x.kin(0, 0, 6));
    }

    private static void puzzle() {
        sentence("PUZZLE by LOOK n (1 .. 4); -9 (a SPENT place is none). -1; -4; -6.");
        dueRefusedJudging((x, g, n) -> x.puzzle(g, 1, n));
        for (int n = 1; n <= 4; n++) {
            int asked = n;
            answered(0, GOING, x -> x.puzzle(1, LEAST, asked));
            answered(-9, () -> with("b22;p0;m04."), x -> x.puzzle(0, GREATEST, asked));
        }
    }

    private static void blunder() {
        sentence("BLUNDER by LOOK n (1 .. 4); -9 (a SPENT place is none). -1; -4; -6.");
        dueRefusedJudging((x, g, n) -> x.blunder(g, 1, n));
        for (int n = 1; n <= 4; n++) {
            int asked = n;
            for (int z : new int[] {0, 1, 7, LEAST, GREATEST}) {
                due("from " + z + " by " + n, with(FORK).blunder(0, z, asked), byHand(FORK, z, n, false));
            }
        }
    }

    private interface Judging {
        int at(GameLoom x, int game, int n);
    }

    private static void dueRefusedJudging(Judging judging) {
        for (int g : new int[] {-1, 3, LEAST, GREATEST}) {
            for (int n : new int[] {0, 1, 4, 5}) {
                refused(-1, GOING, x -> judging.at(x, g, n));
            }
        }
        for (int n : new int[] {0, -1, LEAST}) {
            refused(-4, GOING, x -> judging.at(x, 0, n));
        }
        for (int n : new int[] {5, 6, GREATEST}) {
            refused(-6, GOING, x -> judging.at(x, 0, n));
        }
    }

    private static void pie() {
        sentence("PIE by LOOK n (0 .. 4): how many of what 0, 1, 2. -1; -2; -4; -6; -5 (one of them).");
        answered(9, GOING, x -> x.pie(0, 0, 1));
        answered(9, GOING, x -> x.pie(0, 4, 1));
        answered(0, GOING, x -> x.pie(0, 4, 0));
        answered(0, GOING, x -> x.pie(0, 4, 2));
        for (int g : new int[] {-1, 3, LEAST, GREATEST}) {
            refused(-1, GOING, x -> x.pie(g, 0, 0));
            refused(-1, GOING, x -> x.pie(g, 5, 3));
            refused(-1, GOING, x -> x.pie(g, -1, -1));
        }
        for (int what : new int[] {-1, 3, LEAST, GREATEST}) {
            refused(-2, GOING, x -> x.pie(0, 0, what));
            refused(-2, GOING, x -> x.pie(0, -1, what));
            refused(-2, GOING, x -> x.pie(0, 5, what));
            refused(-2, SPENT, x -> x.pie(0, 4, what));
        }
        for (int n : new int[] {-1, -2, LEAST}) {
            refused(-4, GOING, x -> x.pie(0, n, 0));
            refused(-4, SPENT, x -> x.pie(0, n, 0));
        }
        for (int n : new int[] {5, 6, GREATEST}) {
            refused(-6, GOING, x -> x.pie(0, n, 2));
            refused(-6, SPENT, x -> x.pie(0, n, 2));
        }
        for (int what = 0; what <= 2; what++) {
            int asked = what;
            refused(-5, SPENT, x -> x.pie(0, 4, asked));
        }
    }

    private static void keep() {
        sentence("KEEP: the GAME that is in the NICHE then. -1.");
        for (int g : new int[] {-1, 3, LEAST, GREATEST}) {
            refused(-1, GOING, x -> x.keep(g, 1));
        }
        refused(-1, NEW, x -> x.keep(0, 1));
        answered(0, IDLE, x -> x.keep(0, LEAST));
        answered(2, GOING, x -> x.keep(2, GREATEST));
        answered(1, GOING, x -> x.keep(1, 3));
    }

    private static void niche() {
        sentence("What is kept in a NICHE; -9. -4 below 4; -6 above 16.");
        for (int cells = 4; cells <= 16; cells++) {
            int asked = cells;
            answered(-9, NEW, x -> x.niche(asked));
            answered(cells == 9 ? 1 : -9, GOING, x -> x.niche(asked));
        }
        for (int cells : new int[] {3, 2, 0, -1, LEAST}) {
            refused(-4, GOING, x -> x.niche(cells));
            refused(-4, NEW, x -> x.niche(cells));
        }
        for (int cells : new int[] {17, 18, 99, GREATEST}) {
            refused(-6, GOING, x -> x.niche(cells));
            refused(-6, NEW, x -> x.niche(cells));
        }
    }

    private static void count() {
        sentence("0 GAMES, 1 bytes of the TEXT, 2 moves of THE PLAY (-9 none), 3 NICHES that have one");
        int[] going = {3, 3, 2, 1};
        int[] fresh = {0, 0, -9, 0};
        int[] crowded = {8, 11, 1, 0};
        for (int what = 0; what <= 3; what++) {
            int asked = what;
            answered(going[what], GOING, x -> x.count(asked));
            answered(fresh[what], NEW, x -> x.count(asked));
            answered(crowded[what], CROWDED, x -> x.count(asked));
        }
        answered(90, FULL_TEXT, x -> x.count(1));
        answered(60, () -> sixty(), x -> x.count(2));
        answered(0, playOf("b22;ibbbb;p0;nw."), x -> x.count(2));

        sentence("(the call answers the number, the first that fits in the order in which it tells them;");
        refused(-1, CROWDED, x -> x.change(8, 99, -1));
        refused(-2, SPENT, x -> x.pie(0, 5, 3));
        refused(-3, ENDED, x -> x.look(-1));
        refused(-4, CROWDED, x -> x.change(0, 0, -1));
        refused(-5, SPENT, x -> x.kin(1, 0, 4));
        refused(-6, SPENT, x -> x.kin(1, 0, 7));

        sentence("11 .. 16 REFUSALS -1 .. -6. -9 for another what.");
        GameLoom y = crowded();
        int before = refusals(y);
        int[] answers = {y.start(8), y.of(0, 9), new GameLoom().back(), y.niche(3), spent().look(3), y.game()};
        for (int r = 0; r < 6; r++) {
            due("the answer", answers[r], -1 - r);
        }
        int[] counted = {1, 1, 0, 1, 0, 1};
        for (int r = 0; r < 6; r++) {
            due("how many -" + (r + 1), y.count(11 + r), counted[r]);
        }
        due("four more", refusals(y), before + 4);
        for (int what : new int[] {-1, 4, 5, 10, 17, 18, LEAST, GREATEST}) {
            answered(-9, GOING, x -> x.count(what));
            answered(-9, NEW, x -> x.count(what));
        }
    }

    private static GameLoom sixty() {
        GameLoom x = playing(ENDLESS);
        for (int i = 0; i < 60; i++) {
            x.play(0);
        }
        return x;
    }

    private static void fiveHundredAndTwelve() {
        sentence("An object is used for at most 512 calls after it has been made; what later calls answer is free.");
        GameLoom x = new GameLoom();
        for (int i = 1; i < 512; i++) {
            x.start(0);
        }
        due("the 512th tells of 511", x.count(11), 511);
        GameLoom y = playing(ENDLESS);
        for (int i = 0; i < 500; i++) {
            y.play(i % 2);
        }
        due("moves of a long use", y.state(0), 60);
    }
}
