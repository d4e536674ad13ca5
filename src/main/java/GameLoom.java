/**
 * Rules of small board games as texts, and what can be done with them: plays, looks ahead,
 * matches by seeds, measures, grown texts, puzzles and niches. The document's numbered promises
 * say what each public method answers.
 */
public final class GameLoom {
    private static final int NONE = -9;
    private static final int FAULTY = -20;

    private static final int NOBODY = -1;
    private static final int OTHER = -2;
    private static final int STATE = -3;
    private static final int BELOW = -4;
    private static final int SPENT = -5;
    private static final int ROOM = -6;

    private static final int MOST_GAMES = 8;
    private static final int MOST_BYTES = 90;
    private static final int MOST_CELLS = 16;
    private static final int LEAST_CELLS = 4;
    private static final int MOST_RULES = 6;
    private static final int MOST_MOVES = 60;
    private static final int MOST_LOOK = 6;
    private static final int MOST_JUDGED = 4;
    private static final int MOST_PLAYER = 3;
    private static final int MOST_MATCHES = 20;
    private static final int MOST_WAYS = 3000;
    /** The widest board has 42 pairs of CELLS next to each other, each good for one move of a MOVE. */
    private static final int MOST_LISTED = 256;

    private static final int PUT = 0;
    private static final int STEP = 1;
    private static final int HOP = 2;
    private static final int TAKE = 3;
    private static final int PUSH = 4;
    private static final int NOWHERE = 99;

    private static final int ROW = 0;
    private static final int NO_MOVE = 1;
    private static final int NO_PIECES = 2;
    private static final int WAY = 3;
    private static final int PIECES = 4;
    private static final int LENGTH = 5;

    private static final int WINS = 0;
    private static final int LOSES = 1;
    private static final int DRAWN = 2;

    private static final int GOES_ON = 0;
    private static final int BY_END = 1;
    private static final int STUCK = 2;
    private static final int STOPPED = 3;

    /** Ordered so that the CELLS they lead to come in rising order. */
    private static final int[] DOWN = {-1, -1, -1, 0, 0, 1, 1, 1};
    private static final int[] RIGHT = {-1, 0, 1, -1, 1, -1, 0, 1};
    /** Which directions a MOVE has, as bits. */
    private static final int STRAIGHT = 1;
    private static final int ASLANT = 2;
    private static final int ALL_EIGHT = 3;

    private final Text text = new Text();
    private final Text draft = new Text();
    private final Reader reader = new Reader();
    private final Game[] games = new Game[MOST_GAMES];
    private int gameCount;
    /** What WHAT FOR plays without a MOVE; it never gets a number. */
    private final Game trial = new Game();
    private final Looker looker = new Looker();
    private final Tally tally = new Tally(looker);
    private final Tally otherTally = new Tally(looker);
    private final Judge judge = new Judge(looker);
    private final Play play = new Play();
    private final int[] niches = new int[MOST_CELLS + 1];
    private final int[] worths = new int[MOST_CELLS + 1];
    private final int[] refusals = new int[7];

    public GameLoom() {
        for (int i = 0; i < MOST_GAMES; i++) {
            games[i] = new Game();
        }
        for (int cells = 0; cells <= MOST_CELLS; cells++) {
            niches[cells] = NONE;
        }
    }

    public int feed(int n, long bytes) {
        if (n < 1) {
            return refuse(BELOW);
        }
        if (n > 8 || text.length + n > MOST_BYTES) {
            return refuse(ROOM);
        }
        for (int i = 0; i < n; i++) {
            text.add((int) (bytes >>> (8 * i)) & 255);
        }
        return text.length;
    }

    public int game() {
        if (gameCount >= MOST_GAMES) {
            return refuse(ROOM);
        }
        int answer = admit(text);
        text.length = 0;
        return answer;
    }

    public int of(int game, int what) {
        if (isNoGame(game)) {
            return refuse(NOBODY);
        }
        Game asked = games[game];
        switch (what) {
            case 0:
                return asked.board.width;
            case 1:
                return asked.board.height;
            case 2:
                return asked.moveCount;
            case 3:
                return asked.endCount;
            case 4:
                return asked.text.length;
            case 5:
                return asked.falls();
            default:
                return refuse(OTHER);
        }
    }

    public int letter(int game, int i) {
        if (isNoGame(game)) {
            return refuse(NOBODY);
        }
        if (i < 0) {
            return refuse(BELOW);
        }
        int found = games[game].text.at(i);
        return found < 0 ? NONE : found;
    }

    public int start(int game) {
        if (isNoGame(game)) {
            return refuse(NOBODY);
        }
        play.begin(games[game]);
        return play.moveCount;
    }

    public int move(int i) {
        if (!play.begun) {
            return refuse(STATE);
        }
        if (i < -1) {
            return refuse(BELOW);
        }
        if (i == -1) {
            return play.moveCount;
        }
        return i < play.moveCount ? told(play.moves[i]) : NONE;
    }

    public int play(int i) {
        if (!play.goesOn()) {
            return refuse(STATE);
        }
        if (i < 0) {
            return refuse(BELOW);
        }
        if (i >= play.moveCount) {
            return refuse(ROOM);
        }
        play.go(i);
        return play.position.done;
    }

    public int back() {
        if (!play.begun || play.position.done < 1) {
            return refuse(STATE);
        }
        play.undo();
        return play.position.done;
    }

    public int state(int what) {
        if (!play.begun) {
            return refuse(STATE);
        }
        Position now = play.position;
        switch (what) {
            case 0:
                return now.done;
            case 1:
                return now.side();
            case 2:
                return now.state;
            case 3:
                return now.winner;
            case 4:
                return now.end;
            case 5:
                return now.codeTurned(0);
            case 6:
                return now.name();
            case 7:
                return Integer.bitCount(now.a);
            case 8:
                return Integer.bitCount(now.b);
            default:
                return refuse(OTHER);
        }
    }

    public int cell(int c) {
        if (!play.begun) {
            return refuse(STATE);
        }
        if (c < 0 || c >= play.position.game.board.cells) {
            return refuse(NOBODY);
        }
        return play.position.pieceOn(c);
    }

    public int look(int n) {
        int refusal = refusalOfLook(n, 0);
        if (refusal != 0) {
            return refuse(refusal);
        }
        return looker.valueOf(play.position, n);
    }

    public int best(int n) {
        int refusal = refusalOfLook(n, 1);
        if (refusal != 0) {
            return refuse(refusal);
        }
        return looker.bestOf(play.position, n);
    }

    public int ways(int n) {
        if (!play.begun) {
            return refuse(STATE);
        }
        if (n < 1) {
            return refuse(BELOW);
        }
        if (n > MOST_LOOK) {
            return refuse(ROOM);
        }
        if (looker.isSpent(play.position, n)) {
            return refuse(SPENT);
        }
        return looker.ways[n];
    }

    public int match(int game, int a, int b, int z) {
        if (isNoGame(game)) {
            return refuse(NOBODY);
        }
        if (isNoPlayer(a) || isNoPlayer(b)) {
            return refuse(OTHER);
        }
        tally.run(games[game], 1, z, a, b);
        return 10 * tally.moves + tally.position.winner;
    }

    public int measure(int game, int n, int z, int players, int what) {
        if (isNoGame(game)) {
            return refuse(NOBODY);
        }
        Game asked = games[game];
        int a = players / 10;
        int b = players % 10;
        if (isNoPlayer(a) || isNoPlayer(b) || !asked.isMeasured(what)) {
            return refuse(OTHER);
        }
        if (n < 1) {
            return refuse(BELOW);
        }
        if (n > MOST_MATCHES) {
            return refuse(ROOM);
        }
        tally.run(asked, n, z, a, b);
        return tally.told(what);
    }

    public int verdicts(int game, int z) {
        if (isNoGame(game)) {
            return refuse(NOBODY);
        }
        tally.run(games[game], 12, z, 0, 0);
        return tally.faults();
    }

    public int distance(int a, int b, int z) {
        if (isNoGame(a) || isNoGame(b)) {
            return refuse(NOBODY);
        }
        tally.run(games[a], 10, z, 0, 0);
        otherTally.run(games[b], 10, z, 0, 0);
        return tally.farFrom(otherTally);
    }

    public int whatFor(int game, int k, int z) {
        if (isNoGame(game) || k < 0 || k >= games[game].moveCount) {
            return refuse(NOBODY);
        }
        Game whole = games[game];
        if (whole.moveCount < 2) {
            return NONE;
        }
        whole.writeWithoutMove(k, draft);
        reader.read(draft, trial);
        tally.run(whole, 10, z, 0, 0);
        otherTally.run(trial, 10, z, 0, 0);
        return tally.farFrom(otherTally);
    }

    public int graft(int a, int b) {
        if (isNoGame(a) || isNoGame(b)) {
            return refuse(NOBODY);
        }
        if (gameCount >= MOST_GAMES) {
            return refuse(ROOM);
        }
        draft.length = 0;
        draft.addPart(games[a].text, 0, games[a].endsFrom);
        draft.addPart(games[b].text, games[b].endsFrom, games[b].text.length);
        return admit(draft);
    }

    public int drop(int game, int k, boolean end) {
        if (isNoGame(game)) {
            return refuse(NOBODY);
        }
        int rules = end ? games[game].endCount : games[game].moveCount;
        if (k < 0 || k >= rules || rules < 2) {
            return refuse(NOBODY);
        }
        if (gameCount >= MOST_GAMES) {
            return refuse(ROOM);
        }
        if (end) {
            games[game].writeWithoutEnd(k, draft);
        } else {
            games[game].writeWithoutMove(k, draft);
        }
        return admit(draft);
    }

    public int change(int game, int i, int v) {
        if (isNoGame(game)) {
            return refuse(NOBODY);
        }
        int place = games[game].text.placeOfDigit(i);
        if (place < 0) {
            return refuse(NOBODY);
        }
        if (v < 0) {
            return refuse(BELOW);
        }
        if (v > 9 || gameCount >= MOST_GAMES) {
            return refuse(ROOM);
        }
        draft.copyOf(games[game].text);
        draft.bytes[place] = '0' + v;
        return admit(draft);
    }

    public int mirror(int game) {
        if (isNoGame(game)) {
            return refuse(NOBODY);
        }
        if (gameCount >= MOST_GAMES) {
            return refuse(ROOM);
        }
        games[game].writeMirrored(draft);
        return admit(draft);
    }

    public int kin(int a, int b, int n) {
        if (isNoGame(a) || isNoGame(b)) {
            return refuse(NOBODY);
        }
        if (n < 1) {
            return refuse(BELOW);
        }
        if (n > MOST_LOOK) {
            return refuse(ROOM);
        }
        int same = judge.sameWays(games[a], games[b], n);
        return same == SPENT ? refuse(SPENT) : same;
    }

    public int puzzle(int game, int z, int n) {
        int refusal = refusalOfJudging(game, n);
        return refusal != 0 ? refuse(refusal) : judge.firstPuzzle(games[game], z, n);
    }

    public int blunder(int game, int z, int n) {
        int refusal = refusalOfJudging(game, n);
        return refusal != 0 ? refuse(refusal) : judge.firstBlunder(games[game], z, n);
    }

    public int pie(int game, int n, int what) {
        if (isNoGame(game)) {
            return refuse(NOBODY);
        }
        if (what < 0 || what > 2) {
            return refuse(OTHER);
        }
        if (n < 0) {
            return refuse(BELOW);
        }
        if (n > MOST_JUDGED) {
            return refuse(ROOM);
        }
        int slices = judge.firstMovesWith(games[game], n, what);
        return slices == SPENT ? refuse(SPENT) : slices;
    }

    public int keep(int game, int z) {
        if (isNoGame(game)) {
            return refuse(NOBODY);
        }
        int cells = games[game].board.cells;
        tally.run(games[game], 10, z, 0, 0);
        int worth = tally.worth();
        if (niches[cells] == NONE || worth > worths[cells]) {
            niches[cells] = game;
            worths[cells] = worth;
        }
        return niches[cells];
    }

    public int niche(int cells) {
        if (cells < LEAST_CELLS) {
            return refuse(BELOW);
        }
        if (cells > MOST_CELLS) {
            return refuse(ROOM);
        }
        return niches[cells];
    }

    public int count(int what) {
        if (what >= 11 && what <= 16) {
            return refusals[what - 10];
        }
        switch (what) {
            case 0:
                return gameCount;
            case 1:
                return text.length;
            case 2:
                return play.begun ? play.position.done : NONE;
            case 3:
                return nichesTaken();
            default:
                return NONE;
        }
    }

    private int refuse(int refusal) {
        refusals[-refusal]++;
        return refusal;
    }

    private boolean isNoGame(int game) {
        return game < 0 || game >= gameCount;
    }

    private static boolean isNoPlayer(int player) {
        return player < 0 || player > MOST_PLAYER;
    }

    /** 0 if a LOOK from THE PLAY may be taken. */
    private int refusalOfLook(int n, int least) {
        if (!play.goesOn()) {
            return STATE;
        }
        if (n < least) {
            return BELOW;
        }
        if (n > MOST_LOOK) {
            return ROOM;
        }
        return looker.isSpent(play.position, n) ? SPENT : 0;
    }

    private int refusalOfJudging(int game, int n) {
        if (isNoGame(game)) {
            return NOBODY;
        }
        if (n < 1) {
            return BELOW;
        }
        return n > MOST_JUDGED ? ROOM : 0;
    }

    /** Only called while there is room for a GAME more. */
    private int admit(Text from) {
        int fault = reader.read(from, games[gameCount]);
        if (fault >= 0) {
            return FAULTY - fault;
        }
        gameCount++;
        return gameCount - 1;
    }

    private int nichesTaken() {
        int taken = 0;
        for (int cells = LEAST_CELLS; cells <= MOST_CELLS; cells++) {
            if (niches[cells] != NONE) {
                taken++;
            }
        }
        return taken;
    }

    /** Inside, a move is k, from and to in bytes; outside, in decimal digits. */
    private static int told(int move) {
        return 10000 * (move >>> 16) + 100 * (move >>> 8 & 255) + (move & 255);
    }

    private static int nextLot(int z) {
        return z * 1103515245 + 12345;
    }

    private static int drawnFrom(int z, int moves) {
        return moves < 1 ? 0 : (z >>> 8) % moves;
    }

    /** A row of bytes with an end; what goes beyond its room is left out. */
    private static final class Text {
        final int[] bytes = new int[MOST_BYTES];
        int length;

        int at(int place) {
            return place >= 0 && place < length ? bytes[place] : -1;
        }

        void add(int value) {
            if (length < MOST_BYTES) {
                bytes[length] = value;
                length++;
            }
        }

        void addPart(Text from, int first, int behind) {
            for (int i = first; i < behind; i++) {
                add(from.at(i));
            }
        }

        void copyOf(Text from) {
            length = 0;
            addPart(from, 0, from.length);
        }

        /** -1 if there are not so many digits. */
        int placeOfDigit(int i) {
            int left = i;
            for (int place = 0; place < length && left >= 0; place++) {
                if (bytes[place] >= '0' && bytes[place] <= '9') {
                    if (left == 0) {
                        return place;
                    }
                    left--;
                }
            }
            return -1;
        }
    }

    /** One MOVE or END of a GAME. */
    private static final class Rule {
        int kind;
        /** What its digits say, or which directions it has. */
        int number;
        int outcome;
        boolean must;
        /** Where it stands in the text. */
        int first;
        int behind;
    }

    /** The CELLS, which ones lie next to each other, and all rows of 2 to 4. */
    private static final class Board {
        int width;
        int height;
        int cells;
        final int[] next = new int[MOST_CELLS * 8];
        /** By directions and CELL: the CELLS next to it, as bits. */
        final int[] near = new int[MOST_CELLS * 4];
        final int[] rows = new int[76];
        /** The rows of n stand from rowsFrom[n] to ahead of rowsFrom[n + 1]. */
        final int[] rowsFrom = new int[6];
        /** All CELLS, and those of each edge, as bits. */
        int all;
        int highest;
        int lowest;
        int left;
        int right;

        void lay(int newWidth, int newHeight) {
            width = newWidth;
            height = newHeight;
            cells = newWidth * newHeight;
            for (int c = 0; c < cells; c++) {
                layNear(c);
            }
            layEdges();
            int count = 0;
            for (int n = 2; n <= 4; n++) {
                rowsFrom[n] = count;
                count = layRows(n, count);
            }
            rowsFrom[5] = count;
        }

        private void layNear(int c) {
            int straight = 0;
            int aslant = 0;
            for (int d = 0; d < 8; d++) {
                int there = neighbour(c, d);
                int bit = there < 0 ? 0 : 1 << there;
                next[8 * c + d] = there;
                if (DOWN[d] == 0 || RIGHT[d] == 0) {
                    straight |= bit;
                } else {
                    aslant |= bit;
                }
            }
            near[STRAIGHT * MOST_CELLS + c] = straight;
            near[ASLANT * MOST_CELLS + c] = aslant;
            near[ALL_EIGHT * MOST_CELLS + c] = straight | aslant;
        }

        private int neighbour(int c, int d) {
            if (width < 1) {
                return -1;
            }
            int row = c / width + DOWN[d];
            int column = c % width + RIGHT[d];
            boolean inside = row >= 0 && row < height && column >= 0 && column < width;
            return inside ? row * width + column : -1;
        }

        private void layEdges() {
            all = (1 << cells) - 1;
            highest = (1 << width) - 1;
            lowest = highest << (cells - width);
            left = 0;
            for (int row = 0; row < height; row++) {
                left |= 1 << (row * width);
            }
            right = left << (width - 1);
        }

        private int layRows(int n, int from) {
            int count = from;
            for (int c = 0; c < cells; c++) {
                for (int d = 4; d < 8; d++) {
                    int row = rowOf(n, c, d);
                    if (row != 0 && count < rows.length) {
                        rows[count] = row;
                        count++;
                    }
                }
            }
            return count;
        }

        /** 0 if the board ends ahead of it. */
        private int rowOf(int n, int c, int d) {
            int row = 0;
            int at = c;
            for (int i = 0; i < n; i++) {
                if (at < 0) {
                    return 0;
                }
                row |= 1 << at;
                at = next[8 * at + d];
            }
            return row;
        }

        boolean hasRow(int pieces, int n) {
            if (n < 2 || n > 4) {
                return false;
            }
            for (int i = rowsFrom[n]; i < rowsFrom[n + 1]; i++) {
                if ((pieces & rows[i]) == rows[i]) {
                    return true;
                }
            }
            return false;
        }

        boolean hasWay(int pieces, int side) {
            int from = side == 0 ? highest : left;
            int to = side == 0 ? lowest : right;
            int reached = pieces & from;
            for (int i = 0; i < cells; i++) {
                int sideways = (reached & ~right) << 1 | (reached & ~left) >>> 1;
                int grown = pieces & (reached | sideways | reached << width | reached >>> width);
                if (grown == reached) {
                    break;
                }
                reached = grown;
            }
            return (reached & to) != 0;
        }

        /** The CELL one on in line, as a bit; 0 beyond the edge. */
        int bitBehind(int from, int to) {
            for (int d = 0; d < 8; d++) {
                if (next[8 * from + d] == to) {
                    int behind = next[8 * to + d];
                    return behind < 0 ? 0 : 1 << behind;
                }
            }
            return 0;
        }
    }

    /** What was read from a text without a FAULT. */
    private static final class Game {
        final Text text = new Text();
        final Board board = new Board();
        int beginA;
        int beginB;
        final Rule[] moves = new Rule[MOST_RULES];
        int moveCount;
        final Rule[] ends = new Rule[MOST_RULES];
        int endCount;
        int movesFrom;
        int endsFrom;

        Game() {
            for (int i = 0; i < MOST_RULES; i++) {
                moves[i] = new Rule();
                ends[i] = new Rule();
            }
        }

        int falls() {
            boolean puts = true;
            boolean losses = true;
            for (int k = 0; k < moveCount; k++) {
                int kind = moves[k].kind;
                puts = puts && kind == PUT;
                losses = losses && (kind == HOP || kind == TAKE);
            }
            return puts ? 0 : losses ? 1 : NONE;
        }

        boolean isMeasured(int what) {
            return what >= 0 && what <= 6
                || what >= 10 && what < 10 + moveCount
                || what >= 20 && what < 20 + endCount;
        }

        void writeWithoutMove(int k, Text into) {
            into.length = 0;
            into.addPart(text, 0, movesFrom);
            int written = 0;
            for (int i = 0; i < moveCount; i++) {
                if (i != k) {
                    writeRule(moves[i], written, into);
                    written++;
                }
            }
            into.addPart(text, endsFrom - 1, text.length);
        }

        void writeWithoutEnd(int k, Text into) {
            into.length = 0;
            into.addPart(text, 0, endsFrom);
            int written = 0;
            for (int i = 0; i < endCount; i++) {
                if (i != k) {
                    writeRule(ends[i], written, into);
                    written++;
                }
            }
            into.add('.');
        }

        void writeMirrored(Text into) {
            into.length = 0;
            into.addPart(text, 0, movesFrom);
            for (int i = 0; i < moveCount; i++) {
                writeRule(moves[moveCount - 1 - i], i, into);
            }
            into.addPart(text, endsFrom - 1, text.length);
        }

        private void writeRule(Rule rule, int written, Text into) {
            if (written > 0) {
                into.add(',');
            }
            into.addPart(text, rule.first, rule.behind);
        }
    }

    /** Reads a text byte by byte; where it can not go on, its place is the FAULT. */
    private static final class Reader {
        private Text text;
        private Game game;
        private int place;

        /** The FAULT, or -1 if there is none. */
        int read(Text from, Game into) {
            text = from;
            game = into;
            place = 0;
            boolean good = readBoard() && readBegin() && readMoves() && readEnds()
                && place == text.length;
            if (!good) {
                return place;
            }
            into.text.copyOf(from);
            return -1;
        }

        private boolean takes(int sign) {
            boolean there = text.at(place) == sign;
            if (there) {
                place++;
            }
            return there;
        }

        /** -1 if no digit of that range stands there. */
        private int digit(int least, int greatest) {
            int value = text.at(place) - '0';
            if (value < least || value > greatest) {
                return -1;
            }
            place++;
            return value;
        }

        private boolean readBoard() {
            if (!takes('b')) {
                return false;
            }
            int width = digit(2, 4);
            if (width < 0) {
                return false;
            }
            int height = digit(2, 4);
            if (height < 0) {
                return false;
            }
            game.board.lay(width, height);
            return takes(';');
        }

        private boolean readBegin() {
            game.beginA = 0;
            game.beginB = 0;
            if (!takes('i')) {
                return true;
            }
            for (int c = 0; c < game.board.cells; c++) {
                if (takes('a')) {
                    game.beginA |= 1 << c;
                } else if (takes('b')) {
                    game.beginB |= 1 << c;
                } else if (!takes('x')) {
                    return false;
                }
            }
            return takes(';');
        }

        private boolean readMoves() {
            game.movesFrom = place;
            game.moveCount = 0;
            for (int k = 0; k < MOST_RULES; k++) {
                Rule rule = game.moves[k];
                rule.first = place;
                if (!readMove(rule)) {
                    return false;
                }
                rule.must = takes('!');
                rule.behind = place;
                game.moveCount = k + 1;
                if (takes(';')) {
                    return true;
                }
                if (!takes(',')) {
                    return false;
                }
            }
            return false;
        }

        private boolean readMove(Rule rule) {
            if (takes('p')) {
                rule.kind = PUT;
                rule.number = digit(0, 9);
                return rule.number >= 0;
            }
            if (takes('s')) {
                rule.kind = STEP;
            } else if (takes('h')) {
                rule.kind = HOP;
            } else if (takes('t')) {
                rule.kind = TAKE;
            } else if (takes('u')) {
                rule.kind = PUSH;
            } else {
                return false;
            }
            rule.number = takes('o') ? STRAIGHT : takes('d') ? ASLANT : takes('q') ? ALL_EIGHT : 0;
            return rule.number != 0;
        }

        private boolean readEnds() {
            game.endsFrom = place;
            game.endCount = 0;
            for (int k = 0; k < MOST_RULES; k++) {
                Rule rule = game.ends[k];
                rule.first = place;
                if (!readEnd(rule)) {
                    return false;
                }
                rule.behind = place;
                game.endCount = k + 1;
                if (takes('.')) {
                    return true;
                }
                if (!takes(',')) {
                    return false;
                }
            }
            return false;
        }

        private boolean readEnd(Rule rule) {
            rule.number = 0;
            if (takes('m')) {
                rule.kind = LENGTH;
                return readLength(rule);
            }
            if (takes('r')) {
                rule.kind = ROW;
                rule.number = digit(2, 4);
            } else if (takes('k')) {
                rule.kind = PIECES;
                rule.number = digit(1, 9);
            } else if (takes('n')) {
                rule.kind = NO_MOVE;
            } else if (takes('g')) {
                rule.kind = NO_PIECES;
            } else if (takes('y')) {
                rule.kind = WAY;
            } else {
                return false;
            }
            return rule.number >= 0 && readOutcome(rule);
        }

        private boolean readLength(Rule rule) {
            int tens = digit(0, 9);
            if (tens < 0) {
                return false;
            }
            int ones = digit(0, 9);
            rule.number = 10 * tens + ones;
            rule.outcome = DRAWN;
            return ones >= 0;
        }

        private boolean readOutcome(Rule rule) {
            rule.outcome = takes('w') ? WINS : takes('l') ? LOSES : takes('d') ? DRAWN : -1;
            return rule.outcome >= 0;
        }
    }

    /** A place in a play: the pieces of both as bits by CELLS, and how it stands. */
    private static final class Position {
        Game game;
        int a;
        int b;
        int done;
        int state;
        int winner;
        int end;

        void begin(Game of) {
            game = of;
            done = 0;
            stand(of.beginA, of.beginB);
            if (!hasMove()) {
                close(STUCK, DRAWN, NONE);
            }
        }

        private void stand(int newA, int newB) {
            a = newA;
            b = newB;
            state = GOES_ON;
            winner = NONE;
            end = NONE;
        }

        private void close(int newState, int newWinner, int newEnd) {
            state = newState;
            winner = newWinner;
            end = newEnd;
        }

        int side() {
            return done & 1;
        }

        int pieceOn(int c) {
            return (a >>> c & 1) + 2 * (b >>> c & 1);
        }

        /** How many moves there are; they stand in their order in the row then. */
        int listMoves(int[] into) {
            int count = 0;
            if (state != GOES_ON) {
                return count;
            }
            for (int pass = 0; pass < 2 && count == 0; pass++) {
                for (int k = 0; k < game.moveCount; k++) {
                    if (game.moves[k].must == (pass == 0)) {
                        count = addMoves(k, into, count);
                    }
                }
            }
            return count;
        }

        /** It asks done itself, and not side(), so that the calls from measure stay eight deep. */
        private int addMoves(int k, int[] into, int before) {
            Rule rule = game.moves[k];
            int count = before;
            int own = (done & 1) == 0 ? a : b;
            if (rule.kind == PUT) {
                boolean may = rule.number == 0 || Integer.bitCount(own) < rule.number;
                int empty = game.board.all & ~(a | b);
                return may ? addEach(k << 16 | NOWHERE << 8, empty, into, count) : count;
            }
            for (int c = 0; own >>> c != 0 && c < MOST_CELLS; c++) {
                if ((own >>> c & 1) != 0) {
                    count = addEach(k << 16 | c << 8, targets(rule, c), into, count);
                }
            }
            return count;
        }

        private static int addEach(int move, int cells, int[] into, int before) {
            int count = before;
            for (int to = 0; cells >>> to != 0 && to < MOST_CELLS; to++) {
                if ((cells >>> to & 1) != 0 && count < into.length) {
                    into[count] = move | to;
                    count++;
                }
            }
            return count;
        }

        /** The CELLS where a piece can go by a MOVE that is no PUT, as bits. */
        private int targets(Rule rule, int from) {
            int near = game.board.near[rule.number * MOST_CELLS + from];
            if (rule.kind == STEP) {
                return near & ~(a | b);
            }
            int foes = near & ((done & 1) == 0 ? b : a);
            if (rule.kind == TAKE || foes == 0) {
                return foes;
            }
            int[] next = game.board.next;
            int found = 0;
            for (int d = 0; d < 8; d++) {
                int over = next[8 * from + d];
                if (over >= 0 && (foes >>> over & 1) != 0) {
                    int far = next[8 * over + d];
                    boolean free = far >= 0 && ((a | b) >>> far & 1) == 0;
                    if (rule.kind == HOP) {
                        found |= free ? 1 << far : 0;
                    } else {
                        found |= free || far < 0 ? 1 << over : 0;
                    }
                }
            }
            return found;
        }

        private boolean hasMove() {
            int own = (done & 1) == 0 ? a : b;
            for (int k = 0; k < game.moveCount; k++) {
                Rule rule = game.moves[k];
                if (rule.kind == PUT) {
                    boolean may = rule.number == 0 || Integer.bitCount(own) < rule.number;
                    if (may && (game.board.all & ~(a | b)) != 0) {
                        return true;
                    }
                    continue;
                }
                for (int c = 0; own >>> c != 0 && c < MOST_CELLS; c++) {
                    if ((own >>> c & 1) != 0 && targets(rule, c) != 0) {
                        return true;
                    }
                }
            }
            return false;
        }

        /** Does one of the moves that were listed here, and asks the ENDS. */
        void make(int move) {
            int mover = side();
            shift(move);
            done++;
            boolean lacking = !hasMove();
            for (int e = 0; e < game.endCount; e++) {
                if (holds(game.ends[e], mover, lacking)) {
                    int outcome = game.ends[e].outcome;
                    int won = outcome == WINS ? mover : outcome == LOSES ? 1 - mover : DRAWN;
                    close(BY_END, won, e);
                    return;
                }
            }
            if (lacking) {
                close(STUCK, DRAWN, NONE);
            } else if (done >= MOST_MOVES) {
                close(STOPPED, DRAWN, NONE);
            }
        }

        /** Back to what stood ahead of the latest move. */
        void unmake(int oldA, int oldB) {
            done--;
            stand(oldA, oldB);
        }

        private void shift(int move) {
            int from = move >>> 8 & 255;
            int to = move & 255;
            int kind = game.moves[move >>> 16].kind;
            boolean ofA = side() == 0;
            int own = ofA ? a : b;
            int other = ofA ? b : a;
            own |= 1 << to;
            if (kind != PUT) {
                own &= ~(1 << from);
            }
            if (kind == HOP) {
                other &= ~(1 << (from + to) / 2);
            } else if (kind == TAKE || kind == PUSH) {
                other &= ~(1 << to);
            }
            if (kind == PUSH) {
                other |= game.board.bitBehind(from, to);
            }
            a = ofA ? own : other;
            b = ofA ? other : own;
        }

        private boolean holds(Rule rule, int mover, boolean lacking) {
            int own = mover == 0 ? a : b;
            int other = mover == 0 ? b : a;
            switch (rule.kind) {
                case ROW:
                    return game.board.hasRow(own, rule.number);
                case NO_MOVE:
                    return lacking;
                case NO_PIECES:
                    return other == 0;
                case WAY:
                    return game.board.hasWay(own, mover);
                case PIECES:
                    return Integer.bitCount(own) >= rule.number;
                default:
                    return done >= rule.number;
            }
        }

        int name() {
            int least = codeTurned(0);
            int turnings = game.board.width == game.board.height ? 8 : 4;
            for (int t = 1; t < turnings; t++) {
                least = Math.min(least, codeTurned(t));
            }
            return least;
        }

        /** Bits of t: 1 upside down, 2 left for right, 4 rows for columns (of square boards). */
        int codeTurned(int t) {
            int width = game.board.width;
            int height = game.board.height;
            int code = 0;
            for (int row = height - 1; row >= 0; row--) {
                for (int column = width - 1; column >= 0; column--) {
                    int y = (t & 1) != 0 ? height - 1 - row : row;
                    int x = (t & 2) != 0 ? width - 1 - column : column;
                    code = 3 * code + pieceOn((t & 4) != 0 ? x * width + y : y * width + x);
                }
            }
            return code;
        }
    }

    /** THE PLAY, with its way back. */
    private static final class Play {
        final Position position = new Position();
        final int[] moves = new int[MOST_LISTED];
        int moveCount;
        boolean begun;
        private final int[] pastA = new int[MOST_MOVES];
        private final int[] pastB = new int[MOST_MOVES];

        void begin(Game game) {
            begun = true;
            position.begin(game);
            moveCount = position.listMoves(moves);
        }

        boolean goesOn() {
            return begun && position.state == GOES_ON;
        }

        void go(int i) {
            int done = position.done;
            if (i < 0 || i >= moveCount || done >= MOST_MOVES) {
                return;
            }
            pastA[done] = position.a;
            pastB[done] = position.b;
            position.make(moves[i]);
            moveCount = position.listMoves(moves);
        }

        void undo() {
            int last = position.done - 1;
            if (last < 0) {
                return;
            }
            position.unmake(pastA[last], pastB[last]);
            moveCount = position.listMoves(moves);
        }
    }

    /** Looks ahead from a position, which stands as it stood when the look is over. */
    private static final class Looker {
        /** How many plays of just so many moves there are, from the latest isSpent. */
        final int[] ways = new int[MOST_LOOK + 1];
        private int together;
        /** A row of moves for each depth, so that no look makes any. */
        private final int[][] rows = new int[MOST_LOOK + 1][MOST_LISTED];

        boolean isSpent(Position from, int n) {
            for (int i = 0; i <= MOST_LOOK; i++) {
                ways[i] = 0;
            }
            together = 0;
            countWays(from, 1, n);
            return together > MOST_WAYS;
        }

        private void countWays(Position from, int depth, int n) {
            if (depth > n || depth > MOST_LOOK) {
                return;
            }
            int[] row = rows[depth];
            int count = from.listMoves(row);
            ways[depth] += count;
            together += count;
            if (depth == n) {
                return;
            }
            int a = from.a;
            int b = from.b;
            for (int i = 0; i < count && together <= MOST_WAYS; i++) {
                from.make(row[i]);
                countWays(from, depth + 1, n);
                from.unmake(a, b);
            }
        }

        /** LOOK n of the side to move; it does not ask if that is SPENT. */
        int valueOf(Position from, int n) {
            return deepen(from, n);
        }

        private int deepen(Position from, int n) {
            if (from.state != GOES_ON) {
                return from.winner == DRAWN ? 1 : from.winner == from.side() ? 2 : 0;
            }
            if (n < 1 || n > MOST_LOOK) {
                return 1;
            }
            int[] row = rows[n];
            int count = from.listMoves(row);
            int a = from.a;
            int b = from.b;
            int greatest = 0;
            for (int i = 0; i < count && greatest < 2; i++) {
                from.make(row[i]);
                greatest = Math.max(greatest, 2 - deepen(from, n - 1));
                from.unmake(a, b);
            }
            return greatest;
        }

        int bestOf(Position from, int n) {
            if (n < 1 || n > MOST_LOOK) {
                return 0;
            }
            int[] row = rows[n];
            int count = from.listMoves(row);
            int a = from.a;
            int b = from.b;
            int best = 0;
            int least = 3;
            for (int i = 0; i < count && least > 0; i++) {
                from.make(row[i]);
                int value = deepen(from, n - 1);
                from.unmake(a, b);
                if (value < least) {
                    least = value;
                    best = i;
                }
            }
            return best;
        }
    }

    /** Plays MATCHES and counts what comes of them. */
    private static final class Tally {
        final Position position = new Position();
        int moves;
        private final Looker looker;
        private final int[] listed = new int[MOST_LISTED];
        private int matches;
        private int wonByA;
        private int wonByB;
        private int stopped;
        private int stuck;
        private int longest;
        private final int[] used = new int[MOST_RULES];
        private final int[] ended = new int[MOST_RULES];

        Tally(Looker looker) {
            this.looker = looker;
        }

        void run(Game game, int n, int z, int a, int b) {
            clear();
            for (int i = 0; i < n; i++) {
                playOut(game, z + i, a, b);
                note();
            }
        }

        private void clear() {
            matches = 0;
            moves = 0;
            wonByA = 0;
            wonByB = 0;
            stopped = 0;
            stuck = 0;
            longest = 0;
            for (int k = 0; k < MOST_RULES; k++) {
                used[k] = 0;
                ended[k] = 0;
            }
        }

        private void playOut(Game game, int seed, int a, int b) {
            int z = seed;
            position.begin(game);
            for (int i = 0; i < MOST_MOVES && position.state == GOES_ON; i++) {
                int count = position.listMoves(listed);
                int player = position.side() == 0 ? a : b;
                int chosen = 0;
                if (player == 0) {
                    z = nextLot(z);
                    chosen = drawnFrom(z, count);
                } else if (!looker.isSpent(position, player)) {
                    chosen = looker.bestOf(position, player);
                }
                used[listed[chosen] >>> 16]++;
                position.make(listed[chosen]);
            }
        }

        private void note() {
            matches++;
            moves += position.done;
            longest = Math.max(longest, position.done);
            if (position.winner == 0) {
                wonByA++;
            } else if (position.winner == 1) {
                wonByB++;
            }
            if (position.state == STOPPED) {
                stopped++;
            } else if (position.state == STUCK) {
                stuck++;
            }
            if (position.end >= 0 && position.end < MOST_RULES) {
                ended[position.end]++;
            }
        }

        /** Of a what that isMeasured of the GAME. */
        int told(int what) {
            if (what >= 20 && what < 20 + MOST_RULES) {
                return ended[what - 20];
            }
            if (what >= 10 && what < 10 + MOST_RULES) {
                return used[what - 10];
            }
            switch (what) {
                case 0:
                    return wonByA;
                case 1:
                    return wonByB;
                case 2:
                    return matches - wonByA - wonByB;
                case 3:
                    return moves;
                case 4:
                    return stopped;
                case 5:
                    return stuck;
                default:
                    return longest;
            }
        }

        int faults() {
            Game game = position.game;
            int won = wonByA + wonByB;
            boolean unfair = 4 * wonByA < won || 4 * wonByA > 3 * won;
            return (unfair ? 1 : 0)
                + (stopped > 0 ? 2 : 0)
                + (hasNought(used, game.moveCount) ? 4 : 0)
                + (moves < 48 ? 8 : 0)
                + (hasNought(ended, game.endCount) ? 16 : 0);
        }

        private static boolean hasNought(int[] counts, int n) {
            for (int k = 0; k < n && k < counts.length; k++) {
                if (counts[k] == 0) {
                    return true;
                }
            }
            return false;
        }

        int farFrom(Tally other) {
            return Math.abs(wonByA - other.wonByA)
                + Math.abs(wonByB - other.wonByB)
                + Math.abs(moves / 10 - other.moves / 10);
        }

        int worth() {
            return 10 * Math.min(wonByA, wonByB) + moves / 10;
        }
    }

    /** Looks at beginnings, and at each place of a MATCH of LOTS. */
    private static final class Judge {
        private final Position position = new Position();
        private final Looker looker;
        private final int[] listed = new int[MOST_LISTED];
        private final int[] waysOfFirst = new int[MOST_LOOK + 1];

        Judge(Looker looker) {
            this.looker = looker;
        }

        /** 1 or 0, or SPENT. */
        int sameWays(Game first, Game second, int n) {
            position.begin(first);
            if (looker.isSpent(position, n)) {
                return SPENT;
            }
            System.arraycopy(looker.ways, 0, waysOfFirst, 0, MOST_LOOK + 1);
            position.begin(second);
            if (looker.isSpent(position, n)) {
                return SPENT;
            }
            for (int i = 1; i <= n && i <= MOST_LOOK; i++) {
                if (looker.ways[i] != waysOfFirst[i]) {
                    return 0;
                }
            }
            return 1;
        }

        int firstPuzzle(Game game, int seed, int n) {
            int z = seed;
            position.begin(game);
            for (int i = 0; i < MOST_MOVES && position.state == GOES_ON; i++) {
                int count = position.listMoves(listed);
                if (count > 1 && !looker.isSpent(position, n) && winners(count, n) == 1) {
                    return i;
                }
                z = nextLot(z);
                position.make(listed[drawnFrom(z, count)]);
            }
            return NONE;
        }

        /** How many of the listed moves leave the other side to lose. */
        private int winners(int count, int n) {
            int a = position.a;
            int b = position.b;
            int found = 0;
            for (int i = 0; i < count && found < 2; i++) {
                position.make(listed[i]);
                if (looker.valueOf(position, n - 1) == 0) {
                    found++;
                }
                position.unmake(a, b);
            }
            return found;
        }

        int firstBlunder(Game game, int seed, int n) {
            int z = seed;
            position.begin(game);
            for (int i = 0; i < MOST_MOVES && position.state == GOES_ON; i++) {
                boolean won = !looker.isSpent(position, n) && looker.valueOf(position, n) == 2;
                int count = position.listMoves(listed);
                z = nextLot(z);
                position.make(listed[drawnFrom(z, count)]);
                if (won && looker.valueOf(position, n - 1) > 0) {
                    return i;
                }
            }
            return NONE;
        }

        /** How many first moves leave the other side such a LOOK, or SPENT. */
        int firstMovesWith(Game game, int n, int value) {
            position.begin(game);
            int count = position.listMoves(listed);
            int a = position.a;
            int b = position.b;
            int found = 0;
            for (int i = 0; i < count; i++) {
                position.make(listed[i]);
                if (looker.isSpent(position, n)) {
                    return SPENT;
                }
                if (looker.valueOf(position, n) == value) {
                    found++;
                }
                position.unmake(a, b);
            }
            return found;
        }
    }
}
