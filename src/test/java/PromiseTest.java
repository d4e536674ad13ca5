/** Each promise by itself: ordinary inputs, the edges that the document names, wrong inputs. */
public final class PromiseTest extends Checks {
    public static void main(String[] args) {
        newObject();
        feed();
        gameFaults();
        gameRoom();
        of();
        letter();
        start();
        movesOfEachKind();
        moveCalls();
        playAndBack();
        ends();
        state();
        names();
        cell();
        look();
        best();
        ways();
        match();
        measure();
        verdicts();
        distanceAndWhatFor();
        graft();
        drop();
        change();
        mirror();
        kin();
        puzzle();
        blunder();
        pie();
        keepAndNiche();
        count();
        orderOfRefusals();
        finish("PromiseTest");
    }

    private static void newObject() {
        GameLoom x = new GameLoom();
        due("new games", x.count(0), 0);
        due("new text", x.count(1), 0);
        due("new play", x.count(2), -9);
        due("new niches", x.count(3), 0);
        for (int r = 11; r <= 16; r++) {
            due("new refusals " + r, x.count(r), 0);
        }
        for (int c = 4; c <= 16; c++) {
            due("new niche " + c, x.niche(c), -9);
        }
        due("no game yet", x.of(0, 0), -1);
        due("no play yet", x.state(0), -3);
    }

    private static void feed() {
        GameLoom x = new GameLoom();
        due("feed 0", x.feed(0, 1), -4);
        due("feed -1", x.feed(-1, 1), -4);
        due("feed least", x.feed(Integer.MIN_VALUE, 1), -4);
        due("feed 9", x.feed(9, 1), -6);
        due("feed greatest", x.feed(Integer.MAX_VALUE, 1), -6);
        due("nothing came", x.count(1), 0);
        due("feed 1", x.feed(1, -1L << 8 | 'b'), 1);
        due("feed 2", x.feed(2, '2' | '3' << 8 | 'z' << 16), 3);
        due("feed 8", x.feed(8, ';' | 'p' << 8 | '0' << 16 | ';' << 24 | (long) 'm' << 32 | (long) '0' << 40
            | (long) '5' << 48 | (long) '.' << 56), 11);
        due("game of three feeds", x.game(), 0);
        dueText(x, 0, "b23;p0;m05.");
        for (int i = 1; i <= 11; i++) {
            due("feed 88", x.feed(8, 0), 8 * i);
        }
        due("feed 91", x.feed(3, 0), -6);
        due("text stays", x.count(1), 88);
        due("feed 90", x.feed(2, 0), 90);
        due("feed above 90", x.feed(1, 0), -6);
        due("feed below first", x.feed(0, 0), -4);
        due("a high byte is a byte", new GameLoom().feed(1, 255), 1);
    }

    private static void gameFaults() {
        String whole = "b22;iabxx;p0!,so,hd;r2w,nl,gd,yw,k9l,m99.";
        due("whole text", enter(new GameLoom(), whole), 0);
        for (int i = 0; i < whole.length(); i++) {
            fault(whole.substring(0, i), i);
            fault(whole.substring(0, i) + "z" + whole.substring(i + 1), i);
        }
        fault(whole + ".", whole.length());
        fault("B22;p0;nw.", 0);
        fault("b12;p0;nw.", 1);
        fault("b52;p0;nw.", 1);
        fault("b21;p0;nw.", 2);
        fault("b25;p0;nw.", 2);
        fault("b22;iabx;p0;nw.", 8);
        fault("b22;iabxab;p0;nw.", 9);
        fault("b22;i;p0;nw.", 5);
        fault("b22;iabxx;iabxx;p0;nw.", 10);
        fault("b22;;nw.", 4);
        fault("b22;p;nw.", 5);
        fault("b22;p00;nw.", 6);
        fault("b22;s1;nw.", 5);
        fault("b22;!;nw.", 4);
        fault("b22;p0!!;nw.", 7);
        fault("b22;p0,;nw.", 7);
        fault("b22;p0.", 6);
        fault("b22;p0,p0,p0,p0,p0,p0,p0;nw.", 22);
        fault("b22;p0,p0,p0,p0,p0,p0,;nw.", 22);
        fault("b22;p0,p0,p0,p0,p0,p0,", 22);
        fault("b22;p0;.", 7);
        fault("b22;p0;r1w.", 8);
        fault("b22;p0;r5w.", 8);
        fault("b22;p0;k0w.", 8);
        fault("b22;p:;nw.", 5);
        fault("b22;p/;nw.", 5);
        fault("b22;p0;k:w.", 8);
        fault("b22;p0;m:0.", 8);
        fault("b22;p0;m0:.", 9);
        fault("b22;p0;nn.", 8);
        fault("b22;p0;n!.", 8);
        fault("b22;p0;m1w.", 9);
        fault("b22;p0;m10w.", 10);
        fault("b22;p0;nw;", 9);
        fault("b22;p0;nw,.", 10);
        fault("b22;p0;nw,nw,nw,nw,nw,nw,nw.", 25);
        fault("b22;p0;nw..", 10);
        due("six of each", enter(new GameLoom(), "b44;p9!,so!,hd!,tq!,uo!,p0;r4w,nl,gd,yw,k1w,m00."), 0);
        due("no text", new GameLoom().game(), -20);
    }

    private static void gameRoom() {
        GameLoom x = full(ROWS);
        feedAll(x, ROWS);
        due("ninth game", x.game(), -6);
        due("its text stays", x.count(1), 11);
        feedAll(x, "z");
        due("ninth game with a fault", x.game(), -6);
        due("its text stays too", x.count(1), 12);
        due("rooms refused", x.count(16), 2);
        due("eight games", x.count(0), 8);
    }

    private static void of() {
        GameLoom x = with("b24;p1,p2!;nw,gl,yd.", "b42;hq,to!;nw.", "b22;so;nw.", "b22;p0,hq;nw.", "b22;hq,uo;nw.");
        int[] want = {2, 4, 2, 3, 20, 0};
        for (int what = 0; what < 6; what++) {
            due("of(0, " + what + ")", x.of(0, what), want[what]);
        }
        due("width 4", x.of(1, 0), 4);
        due("height 2", x.of(1, 1), 2);
        due("pieces fall", x.of(1, 5), 1);
        due("step: none", x.of(2, 5), -9);
        due("put and hop: none", x.of(3, 5), -9);
        due("hop and push: none", x.of(4, 5), -9);
        due("of -1", x.of(-1, 0), -1);
        due("of 5", x.of(5, 0), -1);
        due("of what -1", x.of(0, -1), -2);
        due("of what 6", x.of(0, 6), -2);
        due("of nobody first", x.of(5, 6), -1);
    }

    private static void letter() {
        GameLoom x = with("b23;iabxxba;sq!;gw.");
        dueText(x, 0, "b23;iabxxba;sq!;gw.");
        due("letter 90", x.letter(0, 90), -9);
        due("letter far", x.letter(0, Integer.MAX_VALUE), -9);
        due("letter -1", x.letter(0, -1), -4);
        due("letter of none", x.letter(1, 0), -1);
        due("letter nobody first", x.letter(-1, -1), -1);
    }

    private static void start() {
        GameLoom x = with(ROWS, "b22;ibbbb;p0;gw.", FIRST_WINS);
        due("start 0", x.start(0), 9);
        x.play(0);
        due("start -1", x.start(-1), -1);
        due("start 3", x.start(3), -1);
        due("the play stays", x.state(0), 1);
        due("start again", x.start(0), 9);
        due("anew", x.state(0), 0);
        due("no way back", x.back(), -3);
        due("stuck at once", x.start(1), 0);
        due("is stuck", x.state(2), 2);
        due("is drawn", x.state(3), 2);
        due("by no end", x.state(4), -9);
        due("can not play", x.play(0), -3);
        due("start another", x.start(2), 4);
    }

    private static void movesOfEachKind() {
        dueMoves("b33;ixxxxaxxxb;sq;m60.", 400, 401, 402, 403, 405, 406, 407);
        dueMoves("b33;ixxxxaxxxb;so;m60.", 401, 403, 405, 407);
        dueMoves("b33;ixxxxaxxxb;sd;m60.", 400, 402, 406);
        dueMoves("b23;ixaxxbx;sq;m60.", 100, 102, 103);
        dueMoves("b34;iaxxxxxxxxxxb;sd;m60.", 4);
        dueMoves("b43;ixxxaxxxxbxxx;sd;m60.", 306);
        dueMoves("b33;iabxbxxxxx;hq;m60.", 2, 6);
        dueMoves("b33;iabxxbxxxx;hd;m60.", 8);
        dueMoves("b33;iabxxbxxxx;ho;m60.", 2);
        dueMoves("b33;iabaxxxxxx;hq;m60.");
        dueMoves("b33;ixabxxxxxx;hq;m60.");
        dueMoves("b33;iaaxbbbxxx;ho;m60.", 6, 107);
        dueMoves("b33;iaaxbbbxxx;hd;m60.", 8);
        dueMoves("b33;iaaxxxxxxb;hq;m60.");
        dueMoves("b33;iabxbbxxxx;tq;m60.", 1, 3, 4);
        dueMoves("b33;iabxbbxxxx;to;m60.", 1, 3);
        dueMoves("b33;iabxbbxxxx;td;m60.", 4);
        dueMoves("b33;iabxbxxaxx;uq;m60.", 1);
        dueMoves("b33;iabbbxxbxx;uo;m60.");
        dueMoves("b33;ixabxxxxxx;uo;m60.", 102);
        dueMoves("b33;iabxxbxxxa;ud;m60.");
        dueMoves("b22;iaxxx;p1;m60.");
        dueMoves("b22;iaxbx;p2;m60.", 9901, 9903);
        dueMoves("b22;iaaxb;p0;m60.", 9902);
        dueMoves("b22;iaxxb;sd,so,p0;m60.", 10001, 10002, 29901, 29902);
        dueMoves("b22;iaxxb;so,to,p0!,tq!;m60.", 29901, 29902, 30003);
        dueMoves("b22;iaxxx;so,hq!;m60.", 1, 2);
        dueMoves("b22;iaxxx;so,so;m60.", 1, 2, 10001, 10002);
        dueCells(playing("b33;iabxbxxxxx;hq;m60.", 0), "xxabxxxxx");
        dueCells(playing("b33;iabxxbxxxx;hd;m60.", 0), "xbxxxxxxa");
        dueCells(playing("b33;iabxbbxxxx;tq;m60.", 2), "xbxbaxxxx");
        dueCells(playing("b33;iabxbxxaxx;uq;m60.", 0), "xabbxxaxx");
        dueCells(playing("b33;ixabxxxxxx;uo;m60.", 0), "xxaxxxxxx");
        dueCells(playing("b33;iaxxxbxxxx;ud;m60.", 0), "xxxxaxxxb");
        dueCells(playing("b33;ixbaxxxxxx;uo;m60.", 0), "baxxxxxxx");
        dueCells(playing("b33;ixxxxbxxxa;ud;m60.", 0), "bxxxaxxxx");
        dueCells(playing("b33;ixxxxaxxxb;sq;m60.", 6), "xxxxxxxab");
        dueCells(playing(ROWS, 4, 0), "bxxxaxxxx");
    }

    private static void moveCalls() {
        GameLoom x = with(ROWS);
        due("move without a play", x.move(0), -3);
        due("move without a play first", x.move(-2), -3);
        x.start(0);
        due("move -2", x.move(-2), -4);
        due("move least", x.move(Integer.MIN_VALUE), -4);
        due("move far", x.move(Integer.MAX_VALUE), -9);
        GameLoom y = playing(THREE_MOVES, 0, 0, 0);
        due("moves of what ended", y.move(-1), 0);
        due("first move of what ended", y.move(0), -9);
        due("move -2 of what ended", y.move(-2), -4);
    }

    private static void playAndBack() {
        GameLoom x = with(ROWS);
        due("play without a play", x.play(0), -3);
        due("play without a play first", x.play(-1), -3);
        due("back without a play", x.back(), -3);
        x.start(0);
        due("back at the beginning", x.back(), -3);
        due("play -1", x.play(-1), -4);
        due("play 9", x.play(9), -6);
        due("play far", x.play(Integer.MAX_VALUE), -6);
        due("nothing was done", x.state(0), 0);
        due("play 8", x.play(8), 1);
        due("eight left", x.play(8), -6);
        due("play 7", x.play(7), 2);
        due("back", x.back(), 1);
        dueCells(x, "xxxxxxxxa");
        due("eight moves again", x.move(-1), 8);
        due("back to the beginning", x.back(), 0);
        dueCells(x, "xxxxxxxxx");
        due("no more back", x.back(), -3);

        GameLoom y = playing("b33;iabxbxxxxx;hq,so;gw,m60.", 0);
        due("hop back", y.back(), 0);
        dueCells(y, "abxbxxxxx");

        GameLoom z = playing(THREE_MOVES, 0, 0, 0);
        due("play of what ended", z.play(0), -3);
        due("play of what ended first", z.play(-1), -3);
        due("back of what ended", z.back(), 2);
        due("goes on", z.state(2), 0);
        due("none won", z.state(3), -9);
        due("no end", z.state(4), -9);
        due("two moves", z.move(-1), 2);
        due("play again", z.play(1), 3);
    }

    private static void ends() {
        dueEnd("b33;iaaxxxxxxx;p0;r3w.", 0, 1, 0, 0);
        dueEnd("b33;iaaxxxxxxx;p0;r3l.", 0, 1, 1, 0);
        dueEnd("b33;iaaxxxxxxx;p0;r3d.", 0, 1, 2, 0);
        dueEnd("b33;iaxxaxxxxx;p0;r3w.", 4, 1, 0, 0);
        dueEnd("b33;iaxxxaxxxx;p0;r3w.", 6, 1, 0, 0);
        dueEnd("b33;ixxaxaxxxx;p0;r3w.", 4, 1, 0, 0);
        dueEnd("b33;ixaaxxxxxx;p0;r3w.", 1, 0, -9, -9);
        dueEnd("b44;iaxaxxxxxxxxxxxxx;p0;r3w.", 1, 0, -9, -9);
        dueEnd("b44;iaxaxxxxxxxxxxxxx;p0;r3w.", 0, 1, 0, 0);
        dueEnd("b44;iaxxxxaxxxxaxxxxx;p0;r4w.", 12, 1, 0, 0);
        dueEnd("b33;iaxxxxxxxx;p0;r2w.", 0, 1, 0, 0);
        dueEnd("b33;iaxxxxxxxx;p0;r2w.", 1, 0, -9, -9);
        dueEnd("b22;ixaxx;p0;r2w.", 1, 1, 0, 0);
        dueEnd("b33;ibbbxxxxxx;p0;r3w.", 0, 0, -9, -9);
        dueEnd("b33;iaaaxxxxxx;p0;r3w.", 5, 1, 0, 0);
        dueEnd("b22;iabxx;to;nw.", 0, 1, 0, 0);
        dueEnd("b22;iabxx;to;nl.", 0, 1, 1, 0);
        dueEnd("b22;iabxx;to;nd.", 0, 1, 2, 0);
        dueEnd("b22;iabxx;to;k9w.", 0, 2, 2, -9);
        dueEnd("b22;iabxx;to;gw.", 0, 1, 0, 0);
        dueEnd("b22;iabxx;to;gl.", 0, 1, 1, 0);
        dueEnd("b22;iabxx;to;k9w,nl,gw.", 0, 1, 1, 1);
        dueEnd("b22;iabxx;to;k9w,gw,nl.", 0, 1, 0, 1);
        dueEnd("b22;iaxxx;p0;yw.", 1, 1, 0, 0);
        dueEnd("b22;iaxxx;p0;yl.", 1, 1, 1, 0);
        dueEnd("b22;iaxxx;p0;yw.", 2, 0, -9, -9);
        dueEnd("b22;iaxxx;p0;yw.", 0, 0, -9, -9);
        dueEnd("b43;iaaxxxxxxxaxx;p0;yw.", 3, 1, 0, 0);
        dueEnd("b33;ixxaxaaxxx;p0;yw.", 4, 1, 0, 0);
        dueEnd("b33;ixxaxaaxxx;p0;yw.", 3, 0, -9, -9);
        dueEnd("b22;iaxxx;so;k9w.", 0, 2, 2, -9);
        dueEnd("b22;iaxxx;p0;k2w.", 0, 1, 0, 0);
        dueEnd("b22;iaxxx;p0;k3w.", 0, 0, -9, -9);
        dueEnd("b22;iaaxx;p0;k2d.", 0, 1, 2, 0);
        dueEnd("b22;p0;m01.", 0, 1, 2, 0);
        dueEnd("b22;p0;m00.", 0, 1, 2, 0);
        dueEnd("b22;p0;m02.", 0, 0, -9, -9);
        dueEnd("b22;iabbx;p0;k9w.", 0, 2, 2, -9);

        due("no piece more to put", playing("b22;p1;m60.", 0, 0).state(2), 2);
        due("m12", with("b33;iaxxxxxxxb;so;m12.").match(0, 0, 0, 1), 122);
        GameLoom x = playing("b22;ibxxx;p0;yw.", 1, 0);
        due("B from left to right", x.state(3), 1);
        GameLoom y = playing("b22;ibxxx;p0;yw.", 0, 0);
        due("B from high to low is none", y.state(2), 0);

        GameLoom z = with(ENDLESS);
        z.start(0);
        for (int i = 1; i <= 59; i++) {
            due("endless", z.play(0), i);
        }
        due("59 go on", z.state(2), 0);
        due("60", z.play(0), 60);
        due("stopped", z.state(2), 3);
        due("stopped is drawn", z.state(3), 2);
        due("stopped by no end", z.state(4), -9);
        due("no 61st", z.play(0), -3);
        due("back to 59", z.back(), 59);
        due("59 go on again", z.state(2), 0);
        due("one way to 60", z.ways(1), z.move(-1));
        due("none beyond 60", z.ways(2), 0);
    }

    private static void state() {
        GameLoom x = with(ROWS);
        due("state without a play", x.state(0), -3);
        due("state without a play first", x.state(9), -3);
        x.start(0);
        int[] begin = {0, 0, 0, -9, -9, 0, 0, 0, 0};
        for (int what = 0; what < 9; what++) {
            due("begin state " + what, x.state(what), begin[what]);
        }
        x.play(4);
        x.play(0);
        x.play(0);
        int[] want = {3, 1, 0, -9, -9, 86, 86, 2, 1};
        for (int what = 0; what < 9; what++) {
            due("state " + what, x.state(what), want[what]);
        }
        due("state -1", x.state(-1), -2);
        due("state 9", x.state(9), -2);
        GameLoom y = playing(ROWS, 0, 3, 0, 3, 0);
        int[] ended = {5, 1, 1, 0, 0, 1 + 3 + 9 + 2 * 81 + 2 * 729};
        for (int what = 0; what < ended.length; what++) {
            due("ended state " + what, y.state(what), ended[what]);
        }
    }

    private static void names() {
        due("corner code", playing(ROWS, 8).state(5), 6561);
        due("corner name", playing(ROWS, 8).state(6), 1);
        due("side name", playing(ROWS, 5).state(6), 3);
        due("middle name", playing(ROWS, 4).state(6), 81);
        due("corner and far side", playing(ROWS, 0, 4).state(5), 487);
        due("corner and far side name", playing(ROWS, 0, 4).state(6), 63);
        due("tall board 1", playing("b23;p0;m60.", 1).state(6), 1);
        due("tall board 2", playing("b23;p0;m60.", 2).state(6), 9);
        due("tall board 3", playing("b23;p0;m60.", 3).state(6), 9);
        due("tall board 5", playing("b23;p0;m60.", 5).state(6), 1);
        due("wide board 1", playing("b32;p0;m60.", 1).state(6), 3);
        due("wide board 4", playing("b32;p0;m60.", 4).state(6), 3);
        due("wide board 3", playing("b32;p0;m60.", 3).state(6), 1);
        due("greatest code", playing("b44;ibbbbbbbbbbbbbbbx;p0;m60.", 0).state(5), 43046721 - 1 - 14348907);
    }

    private static void cell() {
        GameLoom x = with("b23;iabxxba;so;m60.");
        due("cell without a play", x.cell(0), -3);
        due("cell without a play first", x.cell(-1), -3);
        x.start(0);
        dueCells(x, "abxxba");
        due("cell -1", x.cell(-1), -1);
        due("cell 6", x.cell(6), -1);
        due("cell far", x.cell(Integer.MAX_VALUE), -1);
    }

    private static void look() {
        GameLoom x = with(ROWS);
        due("look without a play", x.look(-1), -3);
        x.start(0);
        due("look 0", x.look(0), 1);
        due("look 3", x.look(3), 1);
        due("look 4 is spent", x.look(4), -5);
        due("look -1", x.look(-1), -4);
        due("look 7", x.look(7), -6);
        due("look changes nothing", x.state(5), 0);
        due("look changes no moves", x.move(-1), 9);
        GameLoom y = playing(FORK);
        due("fork look 0", y.look(0), 1);
        due("fork look 1", y.look(1), 2);
        due("fork look 3", y.look(3), 2);
        y.play(1);
        due("fork parried, look 1", y.look(1), 1);
        GameLoom z = playing("b33;ibxbxaxbxb;p0;r3w.");
        due("lost look 1", z.look(1), 1);
        due("lost look 2", z.look(2), 0);
        due("lost look 3", z.look(3), 0);
        due("must lose", playing("b22;p0;k1l.").look(1), 0);
        due("drawn", playing("b22;p0;m02.").look(2), 1);
        due("drawn ahead of a win", playing("b22;p0;m02,k2w.").look(6), 1);
        due("win ahead of drawn", playing("b22;p0;k2w,m03.").look(3), 2);
        due("the length counts from the beginning", playing("b22;p0;m03,k2w.", 0, 0).look(1), 1);
        due("not yet lost", playing("b32;p0;nw.").look(5), 1);
        due("lost in six", playing("b32;p0;nw.").look(6), 0);
        due("won in five", playing("b32;p0;nw.", 0).look(5), 2);
        due("of what ended", playing(THREE_MOVES, 0, 0, 0).look(1), -3);
        due("of what ended first", playing(THREE_MOVES, 0, 0, 0).look(-1), -3);
    }

    private static void best() {
        GameLoom x = with(ROWS);
        due("best without a play", x.best(0), -3);
        x.start(0);
        due("best 0", x.best(0), -4);
        due("best 7", x.best(7), -6);
        due("best 4 is spent", x.best(4), -5);
        due("best of all the same", x.best(3), 0);
        due("best wins", playing("b33;ixxxaaxbbx;p0;r3w.").best(1), 3);
        due("best wins by 6", playing("b33;ixxxaaxbbx;p0;r3w.").best(6), 3);
        due("best does not see yet", playing("b33;iaxxbbxxxx;p0;r3w.").best(1), 0);
        due("best parries", playing("b33;iaxxbbxxxx;p0;r3w.").best(2), 2);
        due("best loses less", playing("b22;iaxxx;p0,so;k2l.").best(1), 3);
        due("of what ended", playing(THREE_MOVES, 0, 0, 0).best(1), -3);
    }

    private static void ways() {
        GameLoom x = with(ROWS);
        due("ways without a play", x.ways(0), -3);
        x.start(0);
        due("ways 0", x.ways(0), -4);
        due("ways 7", x.ways(7), -6);
        due("ways 1", x.ways(1), 9);
        due("ways 2", x.ways(2), 72);
        due("ways 3", x.ways(3), 504);
        due("ways 4", x.ways(4), -5);
        due("ways 6", x.ways(6), -5);
        due("last ones count", playing(FORK).ways(1), 5);
        due("ended ones count not", playing(FORK).ways(2), 16);
        int[] want = {4, 12, 24, 0, 0, 0};
        for (int n = 1; n <= 6; n++) {
            due("ways of four cells", playing(FIRST_WINS).ways(n), want[n - 1]);
        }
        GameLoom y = playing("b32;p0;nw.");
        due("ways 6 once", y.ways(6), 720);
        due("ways 6 again", y.ways(6), 720);
        due("ways of what ended", playing(THREE_MOVES, 0, 0, 0).ways(3), 0);
        spentEdge("b42;ixbbxaxxb;tq,p4;k4w.", 5, false);
        spentEdge("b34;ixaabbaaxxxax;p0,so;r3w.", 4, false);
        spentEdge("b24;ixbbaxxaa;p3,uq;r3w.", 6, true);
        spentEdge("b43;ixxxxxaabaxba;sq,p2;gw.", 4, true);
    }

    /** Texts with just 3000 or just 3001 ways together. */
    private static void spentEdge(String text, int n, boolean spent) {
        GameLoom x = playing(text);
        int together = 0;
        for (int i = 1; i < n; i++) {
            together += x.ways(i);
        }
        int last = x.ways(n);
        due("spent ways of " + text, last == -5 ? 1 : 0, spent ? 1 : 0);
        due("spent look of " + text, x.look(n) == -5 ? 1 : 0, spent ? 1 : 0);
        due("spent best of " + text, x.best(n) == -5 ? 1 : 0, spent ? 1 : 0);
        due("spent kin of " + text, x.kin(0, 0, n), spent ? -5 : 1);
        if (!spent) {
            due("3000 of " + text, together + last, 3000);
        }
    }

    private static void match() {
        GameLoom x = with(FIRST_WINS, THREE_MOVES, "b22;p0;k2l.", "b22;ibbbb;p0;gw.", FULL_BOARD, ENDLESS, ROWS,
            "b44;p0,sq;r4w,m12.");
        due("first wins", x.match(0, 0, 0, 7), 30);
        due("three moves", x.match(1, 3, 0, 7), 32);
        due("second wins", x.match(2, 0, 2, 7), 31);
        due("stuck at once", x.match(3, 0, 0, 7), 2);
        due("full board", x.match(4, 1, 1, 7), 42);
        due("endless", x.match(5, 0, 0, 7), 602);
        due("match starts no play", x.count(2), -9);
        int[] seeds = {0, 1, -1, 12345, Integer.MIN_VALUE, Integer.MAX_VALUE};
        for (int seed : seeds) {
            for (int players = 0; players < 16; players++) {
                int a = players / 4;
                int b = players % 4;
                GameLoom y = with(ROWS);
                due("match by hand", y.match(0, a, b, seed), replay(y, 0, a, b, seed));
            }
            due("long match by hand", x.match(7, 0, 0, seed), replay(x, 7, 0, 0, seed));
            due("spent match by hand", x.match(7, 0, 3, seed), replay(x, 7, 0, 3, seed));
            x.start(6);
            x.play(3);
            x.match(6, 0, 1, seed);
            due("match leaves the play", x.state(5), 27);
            due("match leaves its moves", x.move(3), 9904);
        }
        due("match 8", x.match(8, 0, 0, 1), -1);
        due("match -1", x.match(-1, 4, 0, 1), -1);
        due("match player -1", x.match(0, -1, 0, 1), -2);
        due("match player 4", x.match(0, 0, 4, 1), -2);
    }

    private static void measure() {
        GameLoom x = with("b22;p0,hq;k2w,m60.", FULL_BOARD, ENDLESS, "b22;p0;k2l.", ROWS);
        int[] whats = {0, 1, 2, 3, 4, 5, 6, 10, 11, 20, 21};
        int[] first = {20, 0, 0, 60, 0, 0, 3, 60, 0, 20, 0};
        for (int i = 0; i < whats.length; i++) {
            due("measure " + whats[i], x.measure(0, 20, 3, 0, whats[i]), first[i]);
        }
        due("stuck", x.measure(1, 7, 3, 0, 5), 7);
        due("stuck is drawn", x.measure(1, 7, 3, 0, 2), 7);
        due("stopped", x.measure(2, 4, 3, 0, 4), 4);
        due("stopped moves", x.measure(2, 4, 3, 0, 3), 240);
        due("stopped longest", x.measure(2, 4, 3, 0, 6), 60);
        due("lost by the first", x.measure(3, 5, 3, 33, 1), 5);
        due("none of them drawn", x.measure(3, 5, 3, 33, 2), 0);
        due("longest of none", with("b22;ibbbb;p0;gw.").measure(0, 5, 3, 0, 6), 0);
        int won = 0;
        int moves = 0;
        for (int i = 0; i < 6; i++) {
            int match = x.match(4, 1, 2, Integer.MAX_VALUE - 2 + i);
            won += match % 10 == 0 ? 1 : 0;
            moves += match / 10;
        }
        due("sum of matches won", x.measure(4, 6, Integer.MAX_VALUE - 2, 12, 0), won);
        due("sum of matches moved", x.measure(4, 6, Integer.MAX_VALUE - 2, 12, 3), moves);
        due("measure of none", x.measure(5, 0, 0, 99, 99), -1);
        int[] wrongPlayers = {4, 40, 44, -1, -10, 100, 34, 43, Integer.MIN_VALUE, Integer.MAX_VALUE};
        for (int players : wrongPlayers) {
            due("players " + players, x.measure(0, 0, 0, players, 0), -2);
        }
        int[] wrongWhats = {-1, 7, 9, 12, 19, 22, 30, Integer.MIN_VALUE, Integer.MAX_VALUE};
        for (int what : wrongWhats) {
            due("what " + what, x.measure(0, 21, 0, 0, what), -2);
        }
        due("n 0", x.measure(0, 0, 0, 0, 0), -4);
        due("n least", x.measure(0, Integer.MIN_VALUE, 0, 0, 0), -4);
        due("n 21", x.measure(0, 21, 0, 0, 0), -6);
        due("n 1", x.measure(0, 1, 0, 0, 0), 1);
    }

    private static void verdicts() {
        GameLoom x = with(FIRST_WINS, THREE_MOVES, FOUR_MOVES, ENDLESS, "b22;p0,hq;m04.", "b22;p0;m04,nw.", ROWS,
            "b22;p0;k2l.");
        due("unfair and dull", x.verdicts(0, 5), 1 + 8);
        due("dull", x.verdicts(1, 5), 8);
        due("not dull", x.verdicts(2, 5), 0);
        due("endless, and an end never", x.verdicts(3, 5), 2 + 16);
        due("a move never", x.verdicts(4, 5), 4);
        due("an end never", x.verdicts(5, 5), 16);
        due("just three quarters", x.verdicts(6, 38), 0);
        due("above three quarters", x.verdicts(6, 18), 1);
        due("below a quarter", x.verdicts(7, 5), 1 + 8);
        due("verdicts of none", x.verdicts(8, 5), -1);
        GameLoom w = with("b33;p3,sq;r3w.");
        due("just one stopped", w.measure(0, 12, 18, 0, 4), 1);
        due("one is endless", w.verdicts(0, 18), 2);
        GameLoom y = with("b33;p0;r3l.");
        due("just a quarter", y.verdicts(0, 38), 0);
        due("below a quarter of lots", y.verdicts(0, 18), 1);
    }

    private static void distanceAndWhatFor() {
        GameLoom x = with(FIRST_WINS, FOUR_MOVES, "b22;p0;k2l.", "b22;p0,hq!;k2w.", ROWS, "b33;p3,so;r3w,nl,m40.");
        due("won or drawn, 3 or 4", x.distance(0, 1, 9), 11);
        due("won by A or by B", x.distance(0, 2, 9), 20);
        due("the same", x.distance(4, 4, 9), 0);
        due("either way", x.distance(4, 5, 9), x.distance(5, 4, 9));
        due("each cut by itself", x.distance(4, 5, 4), 13);
        due("distance of none", x.distance(0, 6, 9), -1);
        due("distance from none", x.distance(-1, 0, 9), -1);
        due("for nothing", x.whatFor(3, 1, 9), 0);
        due("for all", x.whatFor(3, 0, 9), 13);
        due("no other", x.whatFor(0, 0, 9), -9);
        due("no such move", x.whatFor(0, 1, 9), -1);
        due("no move -1", x.whatFor(3, -1, 9), -1);
        due("no such game", x.whatFor(6, 0, 9), -1);
        due("makes no game", x.count(0), 6);
        x.drop(5, 0, false);
        due("as a dropped one", x.whatFor(5, 0, 77), x.distance(5, 6, 77));
    }

    private static void graft() {
        GameLoom x = with("b23;iabxxba;so,tq!;gw,m40.", "b44;p0;r4w,nl,yd.");
        due("graft", x.graft(0, 1), 2);
        dueText(x, 2, "b23;iabxxba;so,tq!;r4w,nl,yd.");
        due("graft the other way", x.graft(1, 0), 3);
        dueText(x, 3, "b44;p0;gw,m40.");
        due("graft of itself", x.graft(3, 3), 4);
        dueText(x, 4, "b44;p0;gw,m40.");
        due("it plays", x.start(2), 2);
        due("graft of none", x.graft(0, 5), -1);
        due("graft from none", x.graft(5, 0), -1);
        GameLoom y = full(ROWS);
        due("no room", y.graft(0, 1), -6);
        due("nobody first", y.graft(0, 8), -1);
    }

    private static void drop() {
        GameLoom x = with("b22;iaxxb;so,tq!,p0;gw,m40,r2d.");
        due("drop the first move", x.drop(0, 0, false), 1);
        dueText(x, 1, "b22;iaxxb;tq!,p0;gw,m40,r2d.");
        due("drop the middle move", x.drop(0, 1, false), 2);
        dueText(x, 2, "b22;iaxxb;so,p0;gw,m40,r2d.");
        due("drop the last move", x.drop(0, 2, false), 3);
        dueText(x, 3, "b22;iaxxb;so,tq!;gw,m40,r2d.");
        due("drop the first end", x.drop(0, 0, true), 4);
        dueText(x, 4, "b22;iaxxb;so,tq!,p0;m40,r2d.");
        due("drop the middle end", x.drop(0, 1, true), 5);
        dueText(x, 5, "b22;iaxxb;so,tq!,p0;gw,r2d.");
        due("drop the last end", x.drop(0, 2, true), 6);
        dueText(x, 6, "b22;iaxxb;so,tq!,p0;gw,m40.");
        due("no move 3", x.drop(0, 3, false), -1);
        due("no move -1", x.drop(0, -1, false), -1);
        due("no end 3", x.drop(0, 3, true), -1);
        due("no game 7", x.drop(7, 0, true), -1);
        GameLoom y = full("b22;so,tq;gw,nl.");
        due("the one move that is left", y.drop(1, 0, false), -1);
        due("the one end that is left", y.drop(1, 0, true), -1);
        due("no room for moves", y.drop(0, 0, false), -6);
        due("no room for ends", y.drop(0, 0, true), -6);
        due("nobody ahead of room", y.drop(0, 2, true), -1);
    }

    private static void change() {
        GameLoom x = with("b22;iaxxb;p1,so;r2w,m45,k3l.");
        due("digits of it", x.change(0, 7, 1), -1);
        due("digit -1", x.change(0, -1, 1), -1);
        due("no game", x.change(1, 0, 2), -1);
        due("nobody first", x.change(0, 7, -1), -1);
        due("v -1", x.change(0, 0, -1), -4);
        due("v 10", x.change(0, 0, 10), -6);
        due("width fault", x.change(0, 0, 5), -21);
        due("height fault", x.change(0, 1, 1), -22);
        due("too little begins", x.change(0, 0, 3), -29);
        due("row fault", x.change(0, 3, 9), -37);
        due("pieces fault", x.change(0, 6, 0), -45);
        due("faults are no games", x.count(0), 1);
        due("put", x.change(0, 2, 0), 1);
        dueText(x, 1, "b22;iaxxb;p0,so;r2w,m45,k3l.");
        due("tens", x.change(0, 4, 0), 2);
        dueText(x, 2, "b22;iaxxb;p1,so;r2w,m05,k3l.");
        due("ones", x.change(0, 5, 9), 3);
        dueText(x, 3, "b22;iaxxb;p1,so;r2w,m49,k3l.");
        due("the same", x.change(0, 6, 3), 4);
        dueText(x, 4, "b22;iaxxb;p1,so;r2w,m45,k3l.");
        due("board", with("b22;p0;nw.").change(0, 1, 4), 1);
        GameLoom w = with("b22;p0;k9w,m90.");
        due("a nine is a digit", w.change(0, 3, 1), 1);
        dueText(w, 1, "b22;p0;k1w,m90.");
        due("a nought is a digit", w.change(0, 5, 1), 2);
        dueText(w, 2, "b22;p0;k9w,m91.");
        GameLoom y = full(ROWS);
        due("no room", y.change(0, 0, 4), -6);
        due("no room for a fault", y.change(0, 0, 5), -6);
        due("below ahead of room", y.change(0, 0, -1), -4);
        due("nobody ahead of room", y.change(0, 4, 3), -1);
    }

    private static void mirror() {
        GameLoom x = with("b22;iaxxb;so,tq!,p0;gw,m40.", ROWS);
        due("mirror", x.mirror(0), 2);
        dueText(x, 2, "b22;iaxxb;p0,tq!,so;gw,m40.");
        due("mirror of one", x.mirror(1), 3);
        dueText(x, 3, ROWS);
        due("mirror of none", x.mirror(4), -1);
        due("mirror of -1", x.mirror(-1), -1);
        GameLoom y = full(ROWS);
        due("no room", y.mirror(0), -6);
        due("nobody first", y.mirror(8), -1);
    }

    private static void kin() {
        GameLoom x = with(ROWS, "b33;p0;r3l.", "b24;p0;nw.", "b42;p0;nw.", FIRST_WINS, FOUR_MOVES, "b22;so;nw.");
        due("won or lost is the same", x.kin(0, 1, 3), 1);
        due("turned boards", x.kin(2, 3, 4), 1);
        due("turned boards spent", x.kin(2, 3, 5), -5);
        due("the third still", x.kin(4, 5, 3), 1);
        due("not the fourth", x.kin(4, 5, 4), 0);
        due("not the fourth, so not six", x.kin(4, 5, 6), 0);
        GameLoom y = with("b32;p0;nw.", "b32;p0;m05.");
        due("the fifth still", y.kin(0, 1, 5), 1);
        due("not the sixth", y.kin(0, 1, 6), 0);
        due("stuck at once", x.kin(6, 6, 6), 1);
        due("none and some", x.kin(6, 5, 1), 0);
        due("spent of the first", x.kin(0, 6, 4), -5);
        due("spent of the second", x.kin(6, 0, 4), -5);
        due("kin of none", x.kin(0, 7, 0), -1);
        due("kin from none", x.kin(-1, 0, 7), -1);
        due("n 0", x.kin(0, 0, 0), -4);
        due("n 7", x.kin(0, 0, 7), -6);
    }

    private static void puzzle() {
        GameLoom x = with(FORK, "b22;p0;r2w.", ROWS, "b22;iaxxx;p1,sd,hq;m01.");
        due("one wins at once", x.puzzle(0, 3, 1), 0);
        due("one wins by 2", x.puzzle(0, 3, 2), 0);
        due("two win", x.puzzle(1, 3, 1), -9);
        due("just one move there is", x.puzzle(3, 3, 1), -9);
        due("rows", x.puzzle(2, 3, 3), 4);
        due("one of two wins", with("b22;iabxx;p0;yw.").puzzle(0, 3, 1), 0);
        for (int seed = 0; seed < 30; seed++) {
            for (int n = 1; n <= 4; n++) {
                due("puzzle by hand", x.puzzle(2, seed, n), byHand(ROWS, seed, n, true));
                due("blunder by hand", x.blunder(2, seed, n), byHand(ROWS, seed, n, false));
            }
        }
        GameLoom y = with("b22;iaaax;p0;k4w.");
        due("one move that wins is no puzzle", y.puzzle(0, 3, 1), -9);
        GameLoom w = with("b44;iaaaxbbbxxxxxxxxx;p0;r4w,m01.", "b44;iaaaxbbbxxxxxxxxx;p0;r4w,m06.");
        due("short enough for a look of 4", w.puzzle(0, 3, 4), 0);
        due("a look of 2 is not spent", w.puzzle(1, 3, 2), 0);
        due("a spent place is none", w.puzzle(1, 7, 4) == 0 ? 1 : 0, 0);
        due("a look of 2 sees the blunder", w.blunder(1, 7, 2), 0);
        due("a spent place is no blunder", w.blunder(1, 7, 4) == 0 ? 1 : 0, 0);
        due("puzzle of none", x.puzzle(4, 3, 0), -1);
        due("n 0", x.puzzle(0, 3, 0), -4);
        due("n 5", x.puzzle(0, 3, 5), -6);
        due("puzzle starts no play", x.count(2), -9);
    }

    private static void blunder() {
        GameLoom x = with(FORK, "b22;p0;r2w.", ROWS);
        for (int seed = 0; seed < 12; seed++) {
            int lot = seed * 1103515245 + 12345;
            boolean wins = (lot >>> 8) % 5 == 0;
            due("fork from " + seed, x.blunder(0, seed, 1), wins ? -9 : 0);
        }
        due("all win", x.blunder(1, 3, 3), -9);
        due("rows", x.blunder(2, 4, 3), 6);
        due("rows by 1", x.blunder(2, 3, 1), 4);
        due("blunder of none", x.blunder(3, 3, 5), -1);
        due("n 0", x.blunder(0, 3, 0), -4);
        due("n 5", x.blunder(0, 3, 5), -6);
    }

    private static void pie() {
        GameLoom x = with(FORK, ROWS, "b44;p0;r4w.", "b22;ibbbb;p0;gw.");
        int[][] want = {{1, 4, 0}, {1, 1, 3}};
        for (int n = 0; n < 2; n++) {
            for (int what = 0; what < 3; what++) {
                due("pie " + n + ", " + what, x.pie(0, n, what), want[n][what]);
            }
        }
        due("pie of rows by 4", x.pie(1, 4, 1), 9);
        due("pie by 3 of 2955 ways", x.pie(2, 3, 1), 16);
        due("pie by 4 is spent", x.pie(2, 4, 1), -5);
        due("no first move", x.pie(3, 4, 1), 0);
        due("pie of none", x.pie(4, 5, 3), -1);
        due("what 3", x.pie(0, 5, 3), -2);
        due("what -1", x.pie(0, -1, -1), -2);
        due("n -1", x.pie(0, -1, 0), -4);
        due("n 5", x.pie(0, 5, 0), -6);
        due("pie starts no play", x.count(2), -9);
    }

    private static void keepAndNiche() {
        GameLoom x = with(FIRST_WINS, THREE_MOVES, FOUR_MOVES, ROWS, "b22;ibbbb;p0;gw.", "b44;p0;r4w.");
        due("keep the first", x.keep(0, 1), 0);
        due("as much is not greater", x.keep(1, 1), 0);
        due("greater", x.keep(2, 1), 2);
        due("less", x.keep(0, 1), 2);
        due("another niche", x.keep(3, 1), 3);
        due("nothing of worth", x.keep(4, 1), 2);
        due("keep of none", x.keep(6, 1), -1);
        due("keep of -1", x.keep(-1, 1), -1);
        due("niche 4", x.niche(4), 2);
        due("niche 9", x.niche(9), 3);
        due("niche 5", x.niche(5), -9);
        due("niche 16", x.niche(16), -9);
        due("keep the widest", x.keep(5, 1), 5);
        due("niche 16 then", x.niche(16), 5);
        due("niche 3", x.niche(3), -4);
        due("niche 17", x.niche(17), -6);
        due("three niches", x.count(3), 3);
        due("worth nothing is kept where none is", with("b22;ibbbb;p0;gw.").keep(0, 1), 0);
        for (int seed = 0; seed < 40; seed++) {
            GameLoom y = with(ROWS, "b33;p3,so;r3w,nl,m40.", "b33;p4,sq;yw,r3l.");
            due("keep 0", y.keep(0, seed), 0);
            int second = worth(y, 1, seed) > worth(y, 0, seed) ? 1 : 0;
            due("keep 1", y.keep(1, seed), second);
            due("keep 2", y.keep(2, seed), worth(y, 2, seed) > worth(y, second, seed) ? 2 : second);
        }
    }

    private static void count() {
        GameLoom x = with(ROWS, FORK);
        due("games", x.count(0), 2);
        feedAll(x, "abcde");
        due("bytes", x.count(1), 5);
        x.start(0);
        due("play begun", x.count(2), 0);
        x.play(0);
        x.play(0);
        due("play of two", x.count(2), 2);
        x.keep(0, 1);
        due("niches", x.count(3), 1);
        int[] none = {-1, 4, 10, 17, Integer.MIN_VALUE, Integer.MAX_VALUE};
        for (int what : none) {
            due("count " + what, x.count(what), -9);
        }
        x.of(2, 0);
        x.of(0, 6);
        x.of(0, 7);
        x.look(-1);
        x.look(6);
        x.look(7);
        x.look(8);
        x.look(9);
        x.start(1);
        x.play(0);
        x.play(0);
        int[] refused = {1, 2, 1, 1, 1, 3};
        for (int r = 0; r < 6; r++) {
            due("refusals " + (r + 1), x.count(11 + r), refused[r]);
        }
        GameLoom y = playing(ROWS);
        y.look(4);
        y.best(6);
        due("spent ones", y.count(15), 2);
        due("counting refuses nothing", y.count(12), 0);
    }

    private static void orderOfRefusals() {
        GameLoom x = with(ROWS);
        due("letter: -1, -4", x.letter(1, -1), -1);
        due("look: -3, -4", x.look(-1), -3);
        due("look: -3, -6", x.look(7), -3);
        due("best: -3, -4", x.best(0), -3);
        due("ways: -3, -6", x.ways(7), -3);
        due("match: -1, -2", x.match(1, 9, 9, 0), -1);
        due("measure: -1, -2", x.measure(1, 1, 0, 99, 0), -1);
        due("measure: -2, -4", x.measure(0, 0, 0, 99, 0), -2);
        due("measure: -2, -6", x.measure(0, 21, 0, 0, 99), -2);
        due("whatFor: -1, -9", x.whatFor(0, 1, 0), -1);
        due("change: -1, -6", x.change(0, 9, 10), -1);
        due("kin: -1, -4", x.kin(0, 1, 0), -1);
        due("puzzle: -1, -6", x.puzzle(1, 0, 5), -1);
        due("pie: -2, -6", x.pie(0, 5, 3), -2);
        due("each was counted once", x.count(11) + x.count(12) + x.count(13) + x.count(14) + x.count(15)
            + x.count(16), 14);
    }
}
