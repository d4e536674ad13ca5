import java.util.Random;

/** Calls with any arguments in any state: none may throw, and all answers stay in their range. */
public final class WildTest {
    private static final int[] EDGES = {Integer.MIN_VALUE, -100, -10, -2, -1, 8, 9, 10, 20, 33, 99, Integer.MAX_VALUE};
    private static final String[] TEXTS = {
        "b44;iaaaaaaaabbbbbbbb;uq,tq,hq,sq,uo,ud;k9w,gw,nl,yw,r4l,m60.",
        "b44;iabababababababxx;sq,tq,uq,hq,so,sd;k9w.", "b22;p0,p9,sq!;m99.", "b33;p0;r3w.", "b24;p3,so;yw,nl.",
    };

    private final Random random;

    private WildTest(long seed) {
        random = new Random(seed);
    }

    public static void main(String[] args) {
        for (int run = 0; run < 150; run++) {
            new WildTest(run).run(run);
        }
        System.out.println("WildTest: nothing was thrown");
    }

    private int any() {
        return random.nextInt(4) == 0 ? EDGES[random.nextInt(EDGES.length)] : random.nextInt(7);
    }

    private void run(int number) {
        GameLoom x = new GameLoom();
        for (int call = 0; call < 512; call++) {
            int kind = random.nextInt(32);
            int answer = kind < 16 ? callOfPlay(x, kind) : callOfGames(x, kind);
            if (answer < -110) {
                System.out.println("run " + number + ", kind " + kind + " answered " + answer);
                System.exit(1);
            }
        }
    }

    private int enter(GameLoom x) {
        String text = TEXTS[random.nextInt(TEXTS.length)];
        for (int i = 0; i < text.length(); i++) {
            x.feed(1, text.charAt(i));
        }
        return x.game();
    }

    private int callOfPlay(GameLoom x, int kind) {
        switch (kind) {
            case 0:
                return x.feed(any(), random.nextLong());
            case 1:
                return x.game();
            case 2:
            case 3:
                return enter(x);
            case 4:
                return x.start(any());
            case 5:
                return x.move(any());
            case 6:
            case 7:
            case 8:
                return x.play(any());
            case 9:
                return x.back();
            case 10:
                return x.state(any());
            case 11:
                return x.cell(any());
            case 12:
                return x.look(any());
            case 13:
                return x.best(any());
            case 14:
                return x.ways(any());
            default:
                return x.count(any());
        }
    }

    private int callOfGames(GameLoom x, int kind) {
        switch (kind) {
            case 16:
                return x.of(any(), any());
            case 17:
                return x.letter(any(), any());
            case 18:
                return x.match(any(), any(), any(), random.nextInt());
            case 19:
                return x.measure(any(), any(), random.nextInt(), any(), any());
            case 20:
                return x.verdicts(any(), random.nextInt());
            case 21:
                return x.distance(any(), any(), random.nextInt());
            case 22:
                return x.whatFor(any(), any(), random.nextInt());
            case 23:
                return x.graft(any(), any());
            case 24:
                return x.drop(any(), any(), random.nextBoolean());
            case 25:
                return x.change(any(), any(), any());
            case 26:
                return x.mirror(any());
            case 27:
                return x.kin(any(), any(), any());
            case 28:
                return x.puzzle(any(), random.nextInt(), any());
            case 29:
                return x.blunder(any(), random.nextInt(), any());
            case 30:
                return x.pie(any(), any(), any());
            default:
                return random.nextBoolean() ? x.keep(any(), random.nextInt()) : x.niche(any());
        }
    }
}
