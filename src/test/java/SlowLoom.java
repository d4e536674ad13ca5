import java.util.ArrayDeque;
import java.util.ArrayList;
import java.util.Arrays;
import java.util.List;
import java.util.regex.Matcher;
import java.util.regex.Pattern;

/**
 * The document once more, in the plainest way and without a look at GameLoom: texts by patterns,
 * moves by trying every pair of cells, ends by search. ModelTest holds the two against each other.
 */
final class SlowLoom {
    /** No byte of a text: what stands where a seventh MOVE or END would begin. */
    private static final String NEVER = "\uFFFF";
    private static final Pattern WHOLE = Pattern.compile(wholePattern());

    private static String wholePattern() {
        StringBuilder boards = new StringBuilder();
        for (int w = 2; w <= 4; w++) {
            for (int h = 2; h <= 4; h++) {
                if (boards.length() > 0) {
                    boards.append('|');
                }
                boards.append("b").append(w).append(h).append(";(?:i[abx]{").append(w * h).append("};)?");
            }
        }
        String move = "(?:(?:p[0-9]|[shtu][odq])!?)";
        String end = "(?:(?:[ngy]|r[2-4]|k[1-9])[wld]|m[0-9][0-9])";
        return "(?:" + boards + ")" + list(move) + ";" + list(end) + "\\.";
    }

    private static String list(String one) {
        return "(?:" + one + "(?:," + one + "){0,5}|" + one + "(?:," + one + "){5}," + NEVER + ")";
    }

    static int fault(String text) {
        for (int i = 1; i <= text.length(); i++) {
            Matcher m = WHOLE.matcher(text.substring(0, i));
            if (!m.matches() && !m.hitEnd()) {
                return i - 1;
            }
        }
        return WHOLE.matcher(text).matches() ? -1 : text.length();
    }

    static final class G {
        final String text;
        final int w;
        final int h;
        final String board;
        final String[] moves;
        final String[] ends;
        final int[] begin;

        G(String text) {
            this.text = text;
            String[] parts = text.substring(0, text.length() - 1).split(";");
            w = parts[0].charAt(1) - '0';
            h = parts[0].charAt(2) - '0';
            begin = new int[w * h];
            boolean placed = parts.length == 4;
            board = placed ? parts[0] + ";" + parts[1] + ";" : parts[0] + ";";
            for (int c = 0; placed && c < w * h; c++) {
                begin[c] = "xab".indexOf(parts[1].charAt(c + 1));
            }
            moves = parts[parts.length - 2].split(",");
            ends = parts[parts.length - 1].split(",");
        }
    }

    /** A position, never changed. */
    static final class P {
        final G g;
        final int[] cells;
        final int done;
        int state = 0;
        int winner = -9;
        int end = -9;

        P(G g, int[] cells, int done) {
            this.g = g;
            this.cells = cells;
            this.done = done;
        }

        int pieces(int colour) {
            return (int) Arrays.stream(cells).filter(x -> x == colour).count();
        }

        private boolean can(String m, int from, int to) {
            int own = done % 2 + 1;
            int other = 3 - own;
            if (m.charAt(0) == 'p') {
                int most = m.charAt(1) - '0';
                return from == 99 && cells[to] == 0 && (most == 0 || pieces(own) < most);
            }
            if (from == 99 || cells[from] != own) {
                return false;
            }
            int dy = to / g.w - from / g.w;
            int dx = to % g.w - from % g.w;
            int far = Math.max(Math.abs(dx), Math.abs(dy));
            boolean hop = m.charAt(0) == 'h';
            if (far != (hop ? 2 : 1)) {
                return false;
            }
            boolean straight = dx == 0 || dy == 0;
            boolean aslant = Math.abs(dx) == Math.abs(dy);
            char aim = m.charAt(1);
            if (!(aim == 'o' && straight || aim == 'd' && aslant || aim == 'q' && (straight || aslant))) {
                return false;
            }
            switch (m.charAt(0)) {
                case 's':
                    return cells[to] == 0;
                case 't':
                    return cells[to] == other;
                case 'h':
                    return cells[to] == 0 && cells[(from / g.w + dy / 2) * g.w + from % g.w + dx / 2] == other;
                default:
                    int behind = at(to / g.w + dy, to % g.w + dx);
                    return cells[to] == other && (behind < 0 || cells[behind] == 0);
            }
        }

        private int at(int y, int x) {
            return y < 0 || x < 0 || y >= g.h || x >= g.w ? -1 : y * g.w + x;
        }

        List<Integer> moves() {
            List<Integer> all = new ArrayList<>();
            if (state != 0) {
                return all;
            }
            boolean must = false;
            for (int k = 0; k < g.moves.length; k++) {
                for (int from = 0; from < 100; from++) {
                    if (from >= cells.length && from != 99) {
                        continue;
                    }
                    for (int to = 0; to < cells.length; to++) {
                        if (can(g.moves[k], from, to)) {
                            all.add(10000 * k + 100 * from + to);
                            must |= g.moves[k].endsWith("!");
                        }
                    }
                }
            }
            if (must) {
                all.removeIf(x -> !g.moves[x / 10000].endsWith("!"));
            }
            return all;
        }

        P after(int move) {
            int own = done % 2 + 1;
            int other = 3 - own;
            String m = g.moves[move / 10000];
            int from = move / 100 % 100;
            int to = move % 100;
            int[] then = cells.clone();
            if (from != 99) {
                int dy = to / g.w - from / g.w;
                int dx = to % g.w - from % g.w;
                then[from] = 0;
                if (m.charAt(0) == 'h') {
                    then[at(from / g.w + dy / 2, from % g.w + dx / 2)] = 0;
                }
                if (m.charAt(0) == 'u') {
                    int behind = at(to / g.w + dy, to % g.w + dx);
                    if (behind >= 0) {
                        then[behind] = other;
                    }
                }
            }
            then[to] = own;
            P next = new P(g, then, done + 1);
            next.ask(own);
            return next;
        }

        private void ask(int own) {
            for (int e = 0; e < g.ends.length; e++) {
                String end = g.ends[e];
                if (holds(end, own)) {
                    char how = end.charAt(0) == 'm' ? 'd' : end.charAt(end.length() - 1);
                    state = 1;
                    winner = how == 'w' ? own - 1 : how == 'l' ? 2 - own : 2;
                    this.end = e;
                    return;
                }
            }
            if (moves().isEmpty()) {
                state = 2;
                winner = 2;
            } else if (done >= 60) {
                state = 3;
                winner = 2;
            }
        }

        private boolean holds(String end, int own) {
            switch (end.charAt(0)) {
                case 'm':
                    return done >= Integer.parseInt(end.substring(1));
                case 'n':
                    return moves().isEmpty();
                case 'g':
                    return pieces(3 - own) == 0;
                case 'k':
                    return pieces(own) >= end.charAt(1) - '0';
                case 'y':
                    return way(own);
                default:
                    return row(own, end.charAt(1) - '0');
            }
        }

        private boolean row(int own, int n) {
            for (int y = 0; y < g.h; y++) {
                for (int x = 0; x < g.w; x++) {
                    for (int dy = -1; dy <= 1; dy++) {
                        for (int dx = -1; dx <= 1; dx++) {
                            int length = 0;
                            while (length < n && (dy != 0 || dx != 0)
                                && at(y + length * dy, x + length * dx) >= 0
                                && cells[at(y + length * dy, x + length * dx)] == own) {
                                length++;
                            }
                            if (length == n) {
                                return true;
                            }
                        }
                    }
                }
            }
            return false;
        }

        private boolean way(int own) {
            ArrayDeque<Integer> open = new ArrayDeque<>();
            boolean[] seen = new boolean[cells.length];
            for (int c = 0; c < cells.length; c++) {
                if (cells[c] == own && (own == 1 ? c / g.w == 0 : c % g.w == 0)) {
                    open.add(c);
                    seen[c] = true;
                }
            }
            while (!open.isEmpty()) {
                int c = open.poll();
                if (own == 1 ? c / g.w == g.h - 1 : c % g.w == g.w - 1) {
                    return true;
                }
                for (int t = 0; t < cells.length; t++) {
                    int apart = Math.abs(t / g.w - c / g.w) + Math.abs(t % g.w - c % g.w);
                    if (apart == 1 && cells[t] == own && !seen[t]) {
                        seen[t] = true;
                        open.add(t);
                    }
                }
            }
            return false;
        }

        static int code(int[] cells) {
            int code = 0;
            for (int c = cells.length - 1; c >= 0; c--) {
                code = code * 3 + cells[c];
            }
            return code;
        }

        private static int[] turned(int[] c, int w, int h) {
            int[] t = new int[c.length];
            for (int y = 0; y < h; y++) {
                for (int x = 0; x < w; x++) {
                    t[x * h + h - 1 - y] = c[y * w + x];
                }
            }
            return t;
        }

        private static int[] mirrored(int[] c, int w, int h) {
            int[] t = new int[c.length];
            for (int y = 0; y < h; y++) {
                for (int x = 0; x < w; x++) {
                    t[y * w + w - 1 - x] = c[y * w + x];
                }
            }
            return t;
        }

        int name() {
            int least = Integer.MAX_VALUE;
            int[] c = cells;
            int w = g.w;
            int h = g.h;
            for (int quarter = 0; quarter < 4; quarter++) {
                if (w == g.w && h == g.h) {
                    least = Math.min(least, code(c));
                    least = Math.min(least, code(mirrored(c, w, h)));
                }
                c = turned(c, w, h);
                int swap = w;
                w = h;
                h = swap;
            }
            return least;
        }

        int look(int n) {
            if (state != 0) {
                return winner == 2 ? 1 : winner == done % 2 ? 2 : 0;
            }
            if (n == 0) {
                return 1;
            }
            int greatest = 0;
            for (int m : moves()) {
                greatest = Math.max(greatest, 2 - after(m).look(n - 1));
            }
            return greatest;
        }

        /** WAYS 1 to n from [1] on; null if SPENT. */
        int[] ways(int n) {
            int[] ways = new int[n + 1];
            int sum = 0;
            List<P> level = List.of(this);
            for (int i = 1; i <= n; i++) {
                List<P> next = new ArrayList<>();
                for (P p : level) {
                    for (int m : p.moves()) {
                        sum++;
                        ways[i]++;
                        if (sum > 3000) {
                            return null;
                        }
                        next.add(p.after(m));
                    }
                }
                level = next;
            }
            return ways;
        }

        int best(int n) {
            List<Integer> all = moves();
            int best = 0;
            for (int i = 1; i < all.size(); i++) {
                if (after(all.get(i)).look(n - 1) < after(all.get(best)).look(n - 1)) {
                    best = i;
                }
            }
            return best;
        }
    }

    private String text = "";
    private final List<G> games = new ArrayList<>();
    private final List<P> play = new ArrayList<>();
    private final int[] niches = new int[17];
    private final int[] worths = new int[17];
    private final int[] refused = new int[7];

    SlowLoom() {
        Arrays.fill(niches, -9);
    }

    private int no(int r) {
        refused[-r]++;
        return r;
    }

    private boolean has(int game) {
        return game >= 0 && game < games.size();
    }

    int feed(int n, long bytes) {
        if (n < 1) {
            return no(-4);
        }
        if (n > 8 || text.length() + n > 90) {
            return no(-6);
        }
        for (int i = 0; i < n; i++) {
            text += (char) (bytes >> 8 * i & 255);
        }
        return text.length();
    }

    private int admit(String t) {
        int fault = fault(t);
        if (fault >= 0) {
            return -20 - fault;
        }
        games.add(new G(t));
        return games.size() - 1;
    }

    int game() {
        if (games.size() == 8) {
            return no(-6);
        }
        int answer = admit(text);
        text = "";
        return answer;
    }

    int of(int game, int what) {
        if (!has(game)) {
            return no(-1);
        }
        if (what < 0 || what > 5) {
            return no(-2);
        }
        G g = games.get(game);
        boolean puts = Arrays.stream(g.moves).allMatch(m -> m.startsWith("p"));
        boolean losses = Arrays.stream(g.moves).allMatch(m -> m.startsWith("h") || m.startsWith("t"));
        int falls = puts ? 0 : losses ? 1 : -9;
        return new int[] {g.w, g.h, g.moves.length, g.ends.length, g.text.length(), falls}[what];
    }

    int letter(int game, int i) {
        if (!has(game)) {
            return no(-1);
        }
        if (i < 0) {
            return no(-4);
        }
        String t = games.get(game).text;
        return i < t.length() ? t.charAt(i) : -9;
    }

    private static P begin(G g) {
        P p = new P(g, g.begin.clone(), 0);
        if (p.moves().isEmpty()) {
            p.state = 2;
            p.winner = 2;
        }
        return p;
    }

    private P now() {
        return play.isEmpty() ? null : play.get(play.size() - 1);
    }

    int start(int game) {
        if (!has(game)) {
            return no(-1);
        }
        play.clear();
        play.add(begin(games.get(game)));
        return now().moves().size();
    }

    int move(int i) {
        if (now() == null) {
            return no(-3);
        }
        if (i < -1) {
            return no(-4);
        }
        List<Integer> all = now().moves();
        return i == -1 ? all.size() : i < all.size() ? all.get(i) : -9;
    }

    int play(int i) {
        if (now() == null || now().state != 0) {
            return no(-3);
        }
        if (i < 0) {
            return no(-4);
        }
        List<Integer> all = now().moves();
        if (i >= all.size()) {
            return no(-6);
        }
        play.add(now().after(all.get(i)));
        return now().done;
    }

    int back() {
        if (play.size() < 2) {
            return no(-3);
        }
        play.remove(play.size() - 1);
        return now().done;
    }

    int state(int what) {
        P p = now();
        if (p == null) {
            return no(-3);
        }
        if (what < 0 || what > 8) {
            return no(-2);
        }
        return new int[] {p.done, p.done % 2, p.state, p.winner, p.end, P.code(p.cells), p.name(),
            p.pieces(1), p.pieces(2)}[what];
    }

    int cell(int c) {
        if (now() == null) {
            return no(-3);
        }
        return c < 0 || c >= now().cells.length ? no(-1) : now().cells[c];
    }

    private int lookRefusal(int n, int least) {
        if (now() == null || now().state != 0) {
            return -3;
        }
        return n < least ? -4 : n > 6 ? -6 : now().ways(n) == null ? -5 : 0;
    }

    int look(int n) {
        int r = lookRefusal(n, 0);
        return r != 0 ? no(r) : now().look(n);
    }

    int best(int n) {
        int r = lookRefusal(n, 1);
        return r != 0 ? no(r) : now().best(n);
    }

    int ways(int n) {
        if (now() == null) {
            return no(-3);
        }
        if (n < 1 || n > 6) {
            return no(n < 1 ? -4 : -6);
        }
        int[] ways = now().ways(n);
        return ways == null ? no(-5) : ways[n];
    }

    /** All positions of a MATCH; picks holds which move was done from each. */
    private static List<P> match(G g, int a, int b, int z, List<Integer> picks) {
        List<P> line = new ArrayList<>();
        P p = begin(g);
        line.add(p);
        while (p.state == 0) {
            int player = p.done % 2 == 0 ? a : b;
            List<Integer> all = p.moves();
            int i = 0;
            if (player == 0) {
                z = z * 1103515245 + 12345;
                i = (z >>> 8) % all.size();
            } else if (p.ways(player) != null) {
                i = p.best(player);
            }
            picks.add(all.get(i));
            p = p.after(all.get(i));
            line.add(p);
        }
        return line;
    }

    private static boolean player(int x) {
        return x >= 0 && x <= 3;
    }

    int match(int game, int a, int b, int z) {
        if (!has(game)) {
            return no(-1);
        }
        if (!player(a) || !player(b)) {
            return no(-2);
        }
        List<P> line = match(games.get(game), a, b, z, new ArrayList<>());
        P last = line.get(line.size() - 1);
        return 10 * last.done + last.winner;
    }

    /** By what, as measure tells them. */
    private static int[] measured(G g, int n, int z, int a, int b) {
        int[] m = new int[30];
        for (int i = 0; i < n; i++) {
            List<Integer> picks = new ArrayList<>();
            List<P> line = match(g, a, b, z + i, picks);
            P last = line.get(line.size() - 1);
            m[last.winner]++;
            m[3] += last.done;
            m[4] += last.state == 3 ? 1 : 0;
            m[5] += last.state == 2 ? 1 : 0;
            m[6] = Math.max(m[6], last.done);
            for (int pick : picks) {
                m[10 + pick / 10000]++;
            }
            if (last.end >= 0) {
                m[20 + last.end]++;
            }
        }
        return m;
    }

    int measure(int game, int n, int z, int players, int what) {
        if (!has(game)) {
            return no(-1);
        }
        G g = games.get(game);
        boolean known = players >= 0 && player(players / 10) && player(players % 10)
            && (what >= 0 && what <= 6 || what / 10 == 1 && what % 10 < g.moves.length
            || what / 10 == 2 && what % 10 < g.ends.length);
        if (!known) {
            return no(-2);
        }
        if (n < 1 || n > 20) {
            return no(n < 1 ? -4 : -6);
        }
        return measured(g, n, z, players / 10, players % 10)[what];
    }

    int verdicts(int game, int z) {
        if (!has(game)) {
            return no(-1);
        }
        G g = games.get(game);
        int[] m = measured(g, 12, z, 0, 0);
        double share = m[0] + m[1] == 0 ? 0.5 : (double) m[0] / (m[0] + m[1]);
        int bits = share < 0.25 || share > 0.75 ? 1 : 0;
        bits |= m[4] > 0 ? 2 : 0;
        for (int k = 0; k < g.moves.length; k++) {
            bits |= m[10 + k] == 0 ? 4 : 0;
        }
        bits |= m[3] < 48 ? 8 : 0;
        for (int k = 0; k < g.ends.length; k++) {
            bits |= m[20 + k] == 0 ? 16 : 0;
        }
        return bits;
    }

    private static int apart(G a, G b, int z) {
        int[] m = measured(a, 10, z, 0, 0);
        int[] o = measured(b, 10, z, 0, 0);
        return Math.abs(m[0] - o[0]) + Math.abs(m[1] - o[1]) + Math.abs(m[3] / 10 - o[3] / 10);
    }

    int distance(int a, int b, int z) {
        return !has(a) || !has(b) ? no(-1) : apart(games.get(a), games.get(b), z);
    }

    private static String without(String[] rules, int k) {
        List<String> left = new ArrayList<>(Arrays.asList(rules));
        left.remove(k);
        return String.join(",", left);
    }

    int whatFor(int game, int k, int z) {
        if (!has(game) || k < 0 || k >= games.get(game).moves.length) {
            return no(-1);
        }
        G g = games.get(game);
        if (g.moves.length == 1) {
            return -9;
        }
        return apart(g, new G(g.board + without(g.moves, k) + ";" + String.join(",", g.ends) + "."), z);
    }

    int graft(int a, int b) {
        if (!has(a) || !has(b)) {
            return no(-1);
        }
        if (games.size() == 8) {
            return no(-6);
        }
        G g = games.get(a);
        return admit(g.board + String.join(",", g.moves) + ";" + String.join(",", games.get(b).ends) + ".");
    }

    int drop(int game, int k, boolean end) {
        if (!has(game)) {
            return no(-1);
        }
        G g = games.get(game);
        String[] rules = end ? g.ends : g.moves;
        if (k < 0 || k >= rules.length || rules.length == 1) {
            return no(-1);
        }
        if (games.size() == 8) {
            return no(-6);
        }
        String moves = end ? String.join(",", g.moves) : without(g.moves, k);
        String ends = end ? without(g.ends, k) : String.join(",", g.ends);
        return admit(g.board + moves + ";" + ends + ".");
    }

    int change(int game, int i, int v) {
        if (!has(game)) {
            return no(-1);
        }
        String t = games.get(game).text;
        List<Integer> digits = new ArrayList<>();
        for (int c = 0; c < t.length(); c++) {
            if (Character.isDigit(t.charAt(c))) {
                digits.add(c);
            }
        }
        if (i < 0 || i >= digits.size()) {
            return no(-1);
        }
        if (v < 0) {
            return no(-4);
        }
        if (v > 9 || games.size() == 8) {
            return no(-6);
        }
        int at = digits.get(i);
        return admit(t.substring(0, at) + v + t.substring(at + 1));
    }

    int mirror(int game) {
        if (!has(game)) {
            return no(-1);
        }
        if (games.size() == 8) {
            return no(-6);
        }
        G g = games.get(game);
        List<String> moves = new ArrayList<>(Arrays.asList(g.moves));
        java.util.Collections.reverse(moves);
        return admit(g.board + String.join(",", moves) + ";" + String.join(",", g.ends) + ".");
    }

    int kin(int a, int b, int n) {
        if (!has(a) || !has(b)) {
            return no(-1);
        }
        if (n < 1 || n > 6) {
            return no(n < 1 ? -4 : -6);
        }
        int[] one = begin(games.get(a)).ways(n);
        int[] two = begin(games.get(b)).ways(n);
        return one == null || two == null ? no(-5) : Arrays.equals(one, two) ? 1 : 0;
    }

    int puzzle(int game, int z, int n) {
        if (!has(game)) {
            return no(-1);
        }
        if (n < 1 || n > 4) {
            return no(n < 1 ? -4 : -6);
        }
        for (P p : match(games.get(game), 0, 0, z, new ArrayList<>())) {
            if (p.state == 0 && p.moves().size() > 1 && p.ways(n) != null
                && p.moves().stream().filter(m -> p.after(m).look(n - 1) == 0).count() == 1) {
                return p.done;
            }
        }
        return -9;
    }

    int blunder(int game, int z, int n) {
        if (!has(game)) {
            return no(-1);
        }
        if (n < 1 || n > 4) {
            return no(n < 1 ? -4 : -6);
        }
        List<P> line = match(games.get(game), 0, 0, z, new ArrayList<>());
        for (int i = 0; i + 1 < line.size(); i++) {
            if (line.get(i).ways(n) != null && line.get(i).look(n) == 2 && line.get(i + 1).look(n - 1) > 0) {
                return i;
            }
        }
        return -9;
    }

    int pie(int game, int n, int what) {
        if (!has(game)) {
            return no(-1);
        }
        if (what < 0 || what > 2) {
            return no(-2);
        }
        if (n < 0 || n > 4) {
            return no(n < 0 ? -4 : -6);
        }
        P p = begin(games.get(game));
        int found = 0;
        for (int m : p.moves()) {
            P then = p.after(m);
            if (then.ways(n) == null) {
                return no(-5);
            }
            found += then.look(n) == what ? 1 : 0;
        }
        return found;
    }

    int keep(int game, int z) {
        if (!has(game)) {
            return no(-1);
        }
        G g = games.get(game);
        int[] m = measured(g, 10, z, 0, 0);
        int worth = Math.min(m[0], m[1]) * 10 + m[3] / 10;
        int c = g.w * g.h;
        if (niches[c] == -9 || worth > worths[c]) {
            niches[c] = game;
            worths[c] = worth;
        }
        return niches[c];
    }

    int niche(int cells) {
        return cells < 4 ? no(-4) : cells > 16 ? no(-6) : niches[cells];
    }

    int count(int what) {
        switch (what) {
            case 0:
                return games.size();
            case 1:
                return text.length();
            case 2:
                return now() == null ? -9 : now().done;
            case 3:
                return (int) Arrays.stream(niches).filter(x -> x != -9).count();
            default:
                return what >= 11 && what <= 16 ? refused[what - 10] : -9;
        }
    }
}
