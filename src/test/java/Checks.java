import java.nio.file.Files;
import java.nio.file.Path;
import java.util.TreeSet;

/** What the tests of single answers share: texts, ways to enter and play them, and what is due. */
abstract class Checks {
    static final String ROWS = "b33;p0;r3w.";
    static final String FIRST_WINS = "b22;p0;k2w.";
    static final String FOUR_MOVES = "b22;p0;m04.";
    static final String THREE_MOVES = "b22;p0;m03.";
    static final String FULL_BOARD = "b22;p0;k9w.";
    static final String ENDLESS = "b33;iaxxxxxxxb;so;k9w.";
    static final String FORK = "b33;iaaxbbxxxx;p0;r3w.";

    /** As long as a TEXT without a FAULT can be: 70 bytes. */
    static final String LONGEST =
        "b44;iabxxabxxabxxabxx;p0!,so!,hd!,tq!,uo!,p9!;r4w,r3l,r2d,k1w,k9l,m60.";
    /** WAYS 1 to 3 come to 3000, and to 3001; just one first move wins, and it is not the first one. */
    static final String AT_3000 = "b44;ibbxbxxxxxaaaxxbx;so,p7;r4w.";
    static final int WINS_AT_3000 = 11;
    static final String AT_3001 = "b44;ibxaxxxaxxxxbxbaa;so,p7;r4w.";
    static final int WINS_AT_3001 = 13;

    private static final Path DOCUMENT = Path.of("../shared/DOC.md");

    private static String document = null;
    private static String sentence = "";
    private static int sentences = 0;
    private static final TreeSet<Integer> places = new TreeSet<>();
    private static int wrong = 0;
    private static int asked = 0;

    /** The words of the document that the answers behind this call are due by. */
    static void sentence(String words) {
        sentence = "\"" + words + "\": ";
        sentences++;
        int place = document().indexOf(words);
        places.add(place);
        if (!document().isEmpty() && place < 0) {
            wrong++;
            System.out.println("the document does not say: " + words);
        }
    }

    /** Each promise has a sentence that was told. */
    static void everyPromiseIsQuoted() {
        for (int k = 1; k <= 30 && !document().isEmpty(); k++) {
            int from = document().indexOf("## Promise " + k + ":");
            int behind = document().indexOf("\n## ", from);
            due("a sentence of promise " + k, places.subSet(from, behind).isEmpty() ? 0 : 1, 1);
        }
    }

    /** Empty where the document is not at hand. */
    private static String document() {
        if (document == null) {
            try {
                document = Files.exists(DOCUMENT) ? Files.readString(DOCUMENT) : "";
            } catch (java.io.IOException e) {
                document = "";
            }
        }
        return document;
    }

    static void due(String what, int got, int want) {
        asked++;
        if (got != want) {
            wrong++;
            System.out.println(sentence + what + " answered " + got + ", due is " + want);
        }
    }

    static void finish(String name) {
        String all = sentences > 0 ? sentences + " sentences, " : "";
        System.out.println(name + ": " + all + (wrong == 0 ? "all of " + asked + " answers are as due"
            : wrong + " of " + asked + " answers are not as due"));
        if (wrong != 0) {
            System.exit(1);
        }
    }

    static void feedAll(GameLoom x, String text) {
        for (int i = 0; i < text.length(); i += 8) {
            int n = Math.min(8, text.length() - i);
            long bytes = 0;
            for (int j = 0; j < n; j++) {
                bytes |= (long) text.charAt(i + j) << 8 * j;
            }
            x.feed(n, bytes);
        }
    }

    static int enter(GameLoom x, String text) {
        feedAll(x, text);
        return x.game();
    }

    static GameLoom with(String... texts) {
        GameLoom x = new GameLoom();
        for (int i = 0; i < texts.length; i++) {
            due("game " + texts[i], enter(x, texts[i]), i);
        }
        return x;
    }

    static GameLoom playing(String text, int... moves) {
        GameLoom x = with(text);
        x.start(0);
        for (int i = 0; i < moves.length; i++) {
            due(text + " play", x.play(moves[i]), i + 1);
        }
        return x;
    }

    static GameLoom full(String first) {
        return with(first, ROWS, FIRST_WINS, FOUR_MOVES, THREE_MOVES, FULL_BOARD, ENDLESS, FORK);
    }

    static void dueMoves(String text, int... moves) {
        GameLoom x = with(text);
        due(text + " start", x.start(0), moves.length);
        due(text + " move(-1)", x.move(-1), moves.length);
        for (int i = 0; i < moves.length; i++) {
            due(text + " move " + i, x.move(i), moves[i]);
        }
        due(text + " move none", x.move(moves.length), -9);
    }

    static void dueCells(GameLoom x, String cells) {
        for (int c = 0; c < cells.length(); c++) {
            due("cell " + c + " of " + cells, x.cell(c), "xab".indexOf(cells.charAt(c)));
        }
    }

    /** A text, the one move that is done, how it ended, who won, by which END. */
    static void dueEnd(String text, int move, int state, int winner, int end) {
        dueEnded(text, playing(text, move), state, winner, end);
    }

    static void dueEnded(String what, GameLoom x, int state, int winner, int end) {
        due(what + " state(2)", x.state(2), state);
        due(what + " state(3)", x.state(3), winner);
        due(what + " state(4)", x.state(4), end);
    }

    static void dueText(GameLoom x, int game, String text) {
        due("length of " + text, x.of(game, 4), text.length());
        for (int i = 0; i < text.length(); i++) {
            due("letter " + i + " of " + text, x.letter(game, i), text.charAt(i));
        }
        due("behind " + text, x.letter(game, text.length()), -9);
    }

    static void fault(String text, int place) {
        GameLoom x = new GameLoom();
        due("game of " + text, enter(x, text), -20 - place);
        due("no game of " + text, x.count(0), 0);
        due("text is gone: " + text, x.count(1), 0);
        for (int r = 11; r <= 16; r++) {
            due("nothing is counted: " + text, x.count(r), 0);
        }
    }

    /** A MATCH done by hand in THE PLAY. */
    static int replay(GameLoom x, int game, int a, int b, int seed) {
        int z = seed;
        int count = x.start(game);
        for (int i = 0; i <= 60 && x.state(2) == 0; i++) {
            int player = x.state(1) == 0 ? a : b;
            int chosen;
            if (player == 0) {
                z = z * 1103515245 + 12345;
                chosen = (z >>> 8) % count;
            } else {
                chosen = Math.max(0, x.best(player));
            }
            x.play(chosen);
            count = x.move(-1);
        }
        return 10 * x.state(0) + x.state(3);
    }

    static int worth(GameLoom x, int game, int z) {
        return 10 * Math.min(x.measure(game, 10, z, 0, 0), x.measure(game, 10, z, 0, 1))
            + x.measure(game, 10, z, 0, 3) / 10;
    }

    /** The first puzzle or blunder of a MATCH, done in THE PLAY. */
    static int byHand(String text, int seed, int n, boolean puzzle) {
        GameLoom x = playing(text);
        int z = seed;
        for (int done = 0; done <= 60 && x.state(2) == 0; done++) {
            int moves = x.move(-1);
            int winning = 0;
            boolean spent = x.ways(n) < 0;
            for (int i = 0; i < moves && !spent; i++) {
                winning += leavesLost(x, i, n) ? 1 : 0;
            }
            z = z * 1103515245 + 12345;
            int chosen = (z >>> 8) % moves;
            boolean blunder = winning > 0 && !leavesLost(x, chosen, n);
            if (puzzle ? moves > 1 && winning == 1 : blunder) {
                return x.state(0);
            }
            x.play(chosen);
        }
        return -9;
    }

    private static boolean leavesLost(GameLoom x, int i, int n) {
        int mover = x.state(1);
        x.play(i);
        boolean lost = x.state(2) == 0 ? x.look(n - 1) == 0 : x.state(3) == mover;
        x.back();
        return lost;
    }

    /** Which move of THE PLAY has such a number; 99 if none has. */
    static int placeOf(GameLoom x, int move) {
        int count = x.move(-1);
        for (int i = 0; i < count; i++) {
            if (x.move(i) == move) {
                return i;
            }
        }
        return 99;
    }

    static String times(String sign, int n) {
        return sign.repeat(Math.max(0, n));
    }
}
