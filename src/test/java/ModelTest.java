import java.util.Random;

/** Runs of random calls, each answered by GameLoom and by the plain model in SlowLoom. */
public final class ModelTest {
    private static final int RUNS = 40;
    private static final int CALLS = 160;
    private static final String SIGNS = "b234;iabxpshtuodq!,rngykmwld.0159z";

    private static final String[] TEXTS = {
        "b33;p0;r3w.", "b33;p3,so;r3w,nl,m40.", "b34;iaaaxxxxxxbbb;sq,tq;gw,nl,m40.",
        "b44;iaxxxbaxxxxbxxxxx;so,ho!,tq,ud;gw,nl,m30.", "b22;p0;nw.", "b34;p1,sq;yw,m60.",
        "b22;p2,so;kw.", "b33;iaxbxxxbxa;uq,sd;gw.", "b43;iaabbxxxxbbaa;hq!,so;nl,k1w.",
        "b24;p0;yw,nl.", "b42;p4!,tq;r2l,r3w.", "b44;p0;r4w,yd.", "b32;iabxxba;sq;m99.",
        "b33;p2,so!;r3w.", "b44;iaaaaxxxxxxxxbbbb;so,td;gw,nl,yw.", "b23;p3,uo;k3w,gl.",
        "b22;so;nw.", "b22;iaxxb;sq;r2w.",
    };

    private final Random random;
    private final GameLoom loom = new GameLoom();
    private final SlowLoom slow = new SlowLoom();

    private ModelTest(long seed) {
        random = new Random(seed);
    }

    public static void main(String[] args) {
        int runs = args.length > 0 ? Integer.parseInt(args[0]) : RUNS;
        long first = args.length > 1 ? Long.parseLong(args[1]) : 0;
        for (long run = first; run < first + runs; run++) {
            ModelTest test = new ModelTest(run);
            for (int call = 0; call < CALLS; call++) {
                String wrong = test.step();
                if (wrong != null) {
                    System.out.println("model run " + run + ", call " + call + ": " + wrong);
                    System.exit(1);
                }
            }
        }
        System.out.println("ModelTest: " + runs + " runs agree");
    }

    private int upTo(int n) {
        return random.nextInt(n + 1);
    }

    private int near(int low, int high) {
        return low - 1 + random.nextInt(high - low + 3);
    }

    /** Mostly a game that there is. */
    private int someGame() {
        int games = slow.count(0);
        return games == 0 || random.nextInt(25) == 0 ? near(0, 8) : random.nextInt(games);
    }

    private String one(String signs) {
        return String.valueOf(signs.charAt(random.nextInt(signs.length())));
    }

    private String randomMove() {
        String move = random.nextInt(3) == 0 ? "p" + one("0012345") : one("shtu") + one("odq");
        return random.nextInt(5) == 0 ? move + "!" : move;
    }

    private String randomEnd() {
        switch (random.nextInt(5)) {
            case 0:
                return "r" + one("234") + one("wld");
            case 1:
                return one("ngy") + one("wwwld");
            case 2:
                return "k" + one("123456789") + one("wld");
            case 3:
                return "m" + one("012345") + one("0123456789");
            default:
                return one("ngyy") + one("wl");
        }
    }

    private String randomText() {
        int w = 2 + random.nextInt(3);
        int h = 2 + random.nextInt(3);
        StringBuilder text = new StringBuilder("b" + w + h + ";");
        if (random.nextInt(3) > 0) {
            text.append('i');
            for (int c = 0; c < w * h; c++) {
                text.append(one("abxx"));
            }
            text.append(';');
        }
        int moves = 1 + random.nextInt(random.nextInt(8) == 0 ? 8 : 3);
        for (int k = 0; k < moves; k++) {
            text.append(k > 0 ? "," : "").append(randomMove());
        }
        text.append(';');
        int ends = 1 + random.nextInt(random.nextInt(8) == 0 ? 8 : 3);
        for (int k = 0; k < ends; k++) {
            text.append(k > 0 ? "," : "").append(randomEnd());
        }
        return text.append('.').toString();
    }

    private String someText() {
        String text = random.nextInt(3) == 0 ? TEXTS[random.nextInt(TEXTS.length)] : randomText();
        if (random.nextInt(3) > 0) {
            return text;
        }
        int at = random.nextInt(text.length());
        switch (random.nextInt(3)) {
            case 0:
                return text.substring(0, at) + one(SIGNS) + text.substring(at + 1);
            case 1:
                return text.substring(0, at) + one(SIGNS) + text.substring(at);
            default:
                return text.substring(0, at);
        }
    }

    private String enterText() {
        String text = someText();
        for (int i = 0; i < text.length(); i += 8) {
            int n = Math.min(8, text.length() - i);
            long bytes = random.nextLong() & (n == 8 ? 0 : -1L << 8 * n);
            for (int j = 0; j < n; j++) {
                bytes |= (long) text.charAt(i + j) << 8 * j;
            }
            String wrong = said("feed(" + n + ", " + bytes + ")", loom.feed(n, bytes), slow.feed(n, bytes));
            if (wrong != null) {
                return wrong;
            }
        }
        return said("game() of " + text, loom.game(), slow.game());
    }

    private static String said(String call, int got, int due) {
        return got == due ? null : call + " answered " + got + ", the model " + due;
    }

    private String step() {
        int kind = random.nextInt(100);
        if (slow.count(0) == 0 && kind < 80 || kind < 4) {
            return enterText();
        }
        return kind < 70 ? stepOfPlay(kind) : stepOfGames();
    }

    private String stepOfPlay(int kind) {
        int i = near(0, 8);
        if (kind < 10) {
            int g = someGame();
            return said("start(" + g + ")", loom.start(g), slow.start(g));
        }
        if (kind < 14) {
            return said("back()", loom.back(), slow.back());
        }
        if (kind < 32) {
            int most = slow.move(-1);
            loom.move(-1);
            int m = most > 0 && random.nextInt(10) > 0 ? random.nextInt(most) : near(0, most < 0 ? 0 : most);
            return said("play(" + m + ")", loom.play(m), slow.play(m));
        }
        if (kind < 40) {
            int m = near(-1, 12);
            return said("move(" + m + ")", loom.move(m), slow.move(m));
        }
        if (kind < 50) {
            return said("state(" + i + ")", loom.state(i), slow.state(i));
        }
        int n = near(0, 6);
        switch (kind % 5) {
            case 0:
                int c = near(0, 16);
                return said("cell(" + c + ")", loom.cell(c), slow.cell(c));
            case 1:
                return said("look(" + n + ")", loom.look(n), slow.look(n));
            case 2:
                return said("best(" + n + ")", loom.best(n), slow.best(n));
            case 3:
                return said("ways(" + n + ")", loom.ways(n), slow.ways(n));
            default:
                int w = random.nextInt(19) - 1;
                return said("count(" + w + ")", loom.count(w), slow.count(w));
        }
    }

    private String stepOfGames() {
        int g = someGame();
        int h = someGame();
        int z = random.nextBoolean() ? random.nextInt(20) : random.nextInt();
        int n = near(1, 4);
        int k = near(0, 3);
        switch (random.nextInt(18)) {
            case 0:
                return said("of(" + g + ", " + n + ")", loom.of(g, n), slow.of(g, n));
            case 1:
                int i = near(0, 40);
                return said("letter(" + g + ", " + i + ")", loom.letter(g, i), slow.letter(g, i));
            case 2:
                int a = near(0, 2);
                int b = near(0, 3);
                return said("match(" + g + ", " + a + ", " + b + ", " + z + ")",
                    loom.match(g, a, b, z), slow.match(g, a, b, z));
            case 3:
            case 4:
                return measures(g, z);
            case 5:
                return said("verdicts(" + g + ", " + z + ")", loom.verdicts(g, z), slow.verdicts(g, z));
            case 6:
                return said("distance(" + g + ", " + h + ", " + z + ")",
                    loom.distance(g, h, z), slow.distance(g, h, z));
            case 7:
                return said("whatFor(" + g + ", " + k + ", " + z + ")",
                    loom.whatFor(g, k, z), slow.whatFor(g, k, z));
            case 8:
                return said("kin(" + g + ", " + h + ", " + n + ")", loom.kin(g, h, n), slow.kin(g, h, n));
            case 9:
                int m = near(1, 6);
                return said("kin(" + g + ", " + g + ", " + m + ")", loom.kin(g, g, m), slow.kin(g, g, m));
            case 10:
            case 11:
                return said("puzzle(" + g + ", " + z + ", " + n + ")",
                    loom.puzzle(g, z, n), slow.puzzle(g, z, n));
            case 12:
            case 13:
                return said("blunder(" + g + ", " + z + ", " + n + ")",
                    loom.blunder(g, z, n), slow.blunder(g, z, n));
            case 14:
                int p = near(0, 4);
                int w = near(0, 2);
                return said("pie(" + g + ", " + p + ", " + w + ")", loom.pie(g, p, w), slow.pie(g, p, w));
            case 15:
                return said("keep(" + g + ", " + z + ")", loom.keep(g, z), slow.keep(g, z));
            case 16:
                int c = near(4, 16);
                return said("niche(" + c + ")", loom.niche(c), slow.niche(c));
            default:
                return grown(g, h, k);
        }
    }

    private String measures(int g, int z) {
        int n = random.nextInt(10) == 0 ? near(1, 20) : 1 + random.nextInt(3);
        int players = random.nextInt(8) == 0 ? near(0, 50) : 10 * upTo(2) + upTo(2);
        int what = random.nextBoolean() ? near(0, 6) : near(10, 25);
        return said("measure(" + g + ", " + n + ", " + z + ", " + players + ", " + what + ")",
            loom.measure(g, n, z, players, what), slow.measure(g, n, z, players, what));
    }

    private String grown(int g, int h, int k) {
        boolean end = random.nextBoolean();
        switch (random.nextInt(4)) {
            case 0:
                return said("graft(" + g + ", " + h + ")", loom.graft(g, h), slow.graft(g, h));
            case 1:
                return said("drop(" + g + ", " + k + ", " + end + ")",
                    loom.drop(g, k, end), slow.drop(g, k, end));
            case 2:
                int i = near(0, 5);
                int v = near(0, 9);
                return said("change(" + g + ", " + i + ", " + v + ")",
                    loom.change(g, i, v), slow.change(g, i, v));
            default:
                return said("mirror(" + g + ")", loom.mirror(g), slow.mirror(g));
        }
    }
}
