import java.io.IOException;

/** The boundary cases that the promises 11 to 21 of ../shared/DOC.md name, a test for each. */
public final class EdgesOfQuestionsTest extends Edges {
    // ---- promise 11

    @Edge(promise = 11, says = "NO_SUCH if there is no such board")
    static void noSuchBoard() {
        refused("board(5, 0)", NO_SUCH, x -> x.board(5, 0));
        refused("board(-1, 0)", NO_SUCH, x -> x.board(-1, 0));
        refused("board(5, 7)", NO_SUCH, x -> x.board(5, 7));
        is("board(0, 0) of none", new Counted().board(0, 0), NO_SUCH);
        Counted x = many(20);
        is("board(20, 0)", x.board(20, 0), NO_SUCH);
        is("board(19, 0)", x.board(19, 0), 0);
        for (int board : FAR_OFF) is("board(" + board + ", 0)", x.board(board, 0), NO_SUCH);
        x.takeUp(3);
        is("board(19, 0) behind takeUp()", x.board(19, 0), NO_SUCH);
    }

    @Edge(promise = 11, says = "BAD_VALUE if what is out of range")
    static void whatOfABoardOutOfRange() {
        refused("board(0, 7)", BAD_VALUE, x -> x.board(0, 7));
        refused("board(0, -1)", BAD_VALUE, x -> x.board(0, -1));
        Counted x = many(1);
        for (int what : FAR_OFF) is("board(0, " + what + ")", x.board(0, what), BAD_VALUE);
    }

    @Edge(promise = 11, says = "0 its lower room, 1 its greater room, 2 its creak, 3 its minutes")
    static void lowerAndGreaterRoom() {
        Counted x = new Counted();
        x.lay(9, 0, 9, 1);
        x.lay(0, 9, 1, 9);
        x.lay(5, 4, 2, 3);
        int[][] rows = {{0, 9, 9, 1}, {0, 9, 1, 9}, {4, 5, 2, 3}};
        for (int i = 0; i < 3; i++) {
            for (int what = 0; what < 4; what++) is("board(" + i + ", " + what + ")", x.board(i, what), rows[i][what]);
        }
    }

    @Edge(promise = 11, says = "4 the ghosts that have crossed it, as a set, 5 the ghosts to whom it is free, as a set")
    static void whoCrossedAndToWhomItIsFree() {
        Counted x = boards("ab11;bc11");
        is("free to all, wherever they are", x.board(1, 5), 0b1111);
        is("crossed by none", x.board(0, 4), 0);
        x.glide(0, 0);
        x.glide(3, 0);
        is("crossed by 0 and 3", x.board(0, 4), 0b1001);
        is("free to 1 and 2", x.board(0, 5), 0b0110);
        x.glide(1, 0);
        x.glide(2, 0);
        is("crossed by all", x.board(0, 4), 0b1111);
        is("free to none", x.board(0, 5), 0);
        x.pass(56);
        is("crossed by none since the bell", x.board(0, 4), 0);
        is("free to all again", x.board(0, 5), 0b1111);
    }

    @Edge(promise = 11, says = "6 how often it creaked so far")
    static void howOftenItCreaked() {
        Counted x = boards("ab11;ab11");
        x.glide(0, 0);
        x.glide(0, 0);
        is("a refused glide does not count", x.board(0, 6), 1);
        x.go(1, 1);
        is("a glide of another one, by go()", x.board(0, 6), 2);
        x.put(2, 1);
        is("put() does not count", x.board(0, 6), 2);
        x.pass(60);
        is("bells do not change it", x.board(0, 6), 2);
        x.glide(0, 0);
        is("again behind a bell", x.board(0, 6), 3);
        is("of another board", x.board(1, 6), 0);
    }

    // ---- promise 12

    @Edge(promise = 12, says = "NO_SUCH if there is no such ghost")
    static void noSuchGhost() {
        refused("ghost(4, 0)", NO_SUCH, x -> x.ghost(4, 0));
        refused("ghost(-1, 0)", NO_SUCH, x -> x.ghost(-1, 0));
        refused("ghost(4, 5)", NO_SUCH, x -> x.ghost(4, 5));
        Counted x = new Counted();
        for (int ghost : FAR_OFF) is("ghost(" + ghost + ", 0)", x.ghost(ghost, 0), NO_SUCH);
    }

    @Edge(promise = 12, says = "BAD_VALUE if what is out of range")
    static void whatOfAGhostOutOfRange() {
        refused("ghost(0, 5)", BAD_VALUE, x -> x.ghost(0, 5));
        refused("ghost(3, -1)", BAD_VALUE, x -> x.ghost(3, -1));
        Counted x = new Counted();
        for (int what : FAR_OFF) is("ghost(0, " + what + ")", x.ghost(0, what), BAD_VALUE);
    }

    @Edge(promise = 12, says = "2 boards that are free to it at its room, as a set")
    static void freeBoardsAtItsRoom() {
        Counted x = boards("ab11;ca11;bc11;ad91");
        is("in a", x.ghost(0, 2), 0b1011);
        x.glide(0, 1);
        is("in c, ca crossed", x.ghost(0, 2), 0b0100);
        is("in a, another one", x.ghost(1, 2), 0b1011);
        x.put(0, 9);
        is("in an empty room", x.ghost(0, 2), 0);
        x.sleeper(3, 9);
        x.put(2, 3);
        x.glide(2, 3);
        is("in a, d watched", x.ghost(1, 2), 0b0011);
        x.put(2, 3);
        is("in the watched room", x.ghost(2, 2), 0);
    }

    @Edge(promise = 12, says = "3 rooms to which it could go by boards that are free to it now, as a set, its own among them")
    static void roomsToWhichItCouldGo() {
        Counted x = boards("ij11;hi11;gh11;fg11;ef11;de11;cd11;bc11;ab91");
        is("all ten", x.ghost(0, 3), 1023);
        x.put(0, 9);
        is("all ten from the other end", x.ghost(0, 3), 1023);
        x.put(0, 4);
        x.glide(0, 5);
        is("e to j is behind what it has crossed", x.ghost(0, 3), 0b1111);
        is("to another one", x.ghost(1, 3), 1023);
        x.sleeper(2, 8);
        x.glide(1, 8);
        is("c is watched", x.ghost(1, 3), 0b10);
        is("from a, c is watched", x.ghost(2, 3), 0b11);
        x.put(2, 2);
        is("in the watched room its own alone", x.ghost(2, 3), 0b100);
        is("without boards", new Counted().ghost(0, 3), 1);
    }

    @Edge(promise = 12, says = "4 boards that it crossed so far, each time one")
    static void crossedSoFar() {
        Counted x = boards("ab11;bc11");
        x.go(0, 2);
        is("two by go()", x.ghost(0, 4), 2);
        x.glide(0, 1);
        is("a refused one does not count", x.ghost(0, 4), 2);
        x.pass(60);
        is("bells do not change it", x.ghost(0, 4), 2);
        x.glide(0, 1);
        is("the same board again", x.ghost(0, 4), 3);
        x.takeUp(1);
        is("a board that is taken up still counts", x.ghost(0, 4), 3);
        is("of another one", x.ghost(1, 4), 0);
    }

    // ---- promise 13

    @Edge(promise = 13, says = "NO_SUCH if there is no such sleeper")
    static void noSuchSleeper() {
        refused("sleeperOf(2, 0)", NO_SUCH, x -> x.sleeperOf(2, 0));
        refused("sleeperOf(-1, 0)", NO_SUCH, x -> x.sleeperOf(-1, 0));
        refused("sleeperOf(2, 5)", NO_SUCH, x -> x.sleeperOf(2, 5));
        Counted x = new Counted();
        is("sleeperOf(0, 0) of none", x.sleeperOf(0, 0), NO_SUCH);
        for (int i = 0; i < 5; i++) x.sleeper(0, 1);
        is("sleeperOf(4, 1)", x.sleeperOf(4, 1), 1);
        is("sleeperOf(5, 1)", x.sleeperOf(5, 1), NO_SUCH);
        for (int sleeper : FAR_OFF) is("sleeperOf(" + sleeper + ", 0)", x.sleeperOf(sleeper, 0), NO_SUCH);
    }

    @Edge(promise = 13, says = "BAD_VALUE if what is out of range")
    static void whatOfASleeperOutOfRange() {
        refused("sleeperOf(0, 5)", BAD_VALUE, x -> x.sleeperOf(0, 5));
        refused("sleeperOf(1, -1)", BAD_VALUE, x -> x.sleeperOf(1, -1));
        Counted x = new Counted();
        x.sleeper(0, 1);
        for (int what : FAR_OFF) is("sleeperOf(0, " + what + ")", x.sleeperOf(0, what), BAD_VALUE);
    }

    @Edge(promise = 13, says = "2 for how many minutes it is awake still (0: it sleeps)")
    static void awakeStill() {
        Counted x = boards("ab91");
        x.sleeper(1, 9);
        x.set(AWAKE, 2);
        is("at first", x.sleeperOf(0, 2), 0);
        x.glide(0, 0);
        is("behind a glide of 1 minute", x.sleeperOf(0, 2), 1);
        x.pass(1);
        is("it sleeps", x.sleeperOf(0, 2), 0);
        x.set(AWAKE, 1);
        x.glide(1, 0);
        is("it sleeps when the glide ends", x.sleeperOf(0, 2), 0);
        is("but it woke", x.sleeperOf(0, 3), 2);
    }

    @Edge(promise = 13, says = "3 how often it woke so far, out of sleep")
    static void wokeOutOfSleep() {
        Counted x = boards("ab91;ab91;ab91;bc11");
        x.sleeper(2, 8);
        x.glide(0, 0);
        x.glide(0, 1);
        is("once out of sleep", x.sleeperOf(0, 3), 1);
        x.pass(8);
        is("awake for a minute still", x.sleeperOf(0, 2), 1);
        x.glide(0, 2);
        is("not out of sleep in the last minute", x.sleeperOf(0, 3), 1);
        x.pass(9);
        is("it sleeps", x.sleeperOf(0, 2), 0);
        x.glide(1, 0);
        is("out of sleep again", x.sleeperOf(0, 3), 2);
    }

    @Edge(promise = 13, says = "4 the boards that would wake it, as a set")
    static void boardsThatWouldWakeIt() {
        Counted x = boards("ab41;ab51;bc51;bc61;cd61;cd71;ij91");
        x.sleeper(0, 5);
        is("its ear or more, with the way there", x.sleeperOf(0, 4), 0b101010);
        x.glide(0, 1);
        is("watched and crossed ones, and it is awake", x.sleeperOf(0, 4), 0b101010);
        x.takeUp(0);
        is("behind takeUp()", x.sleeperOf(0, 4), 0b010101);
        Counted y = many(20);
        y.sleeper(1, 1);
        is("all twenty", y.sleeperOf(0, 4), 0xfffff);
        Counted z = new Counted();
        z.sleeper(0, 1);
        is("without boards", z.sleeperOf(0, 4), 0);
    }

    // ---- promise 14

    @Edge(promise = 14, says = "NO_SUCH if there is no such board or sleeper")
    static void loudnessOfNoSuchBoard() {
        refused("loudness(5, 0)", NO_SUCH, x -> x.loudness(5, 0));
        refused("loudness(0, 2)", NO_SUCH, x -> x.loudness(0, 2));
        refused("loudness(-1, 0)", NO_SUCH, x -> x.loudness(-1, 0));
        refused("loudness(0, -1)", NO_SUCH, x -> x.loudness(0, -1));
        Counted x = many(20);
        is("loudness(0, 0) of no sleeper", x.loudness(0, 0), NO_SUCH);
        x.sleeper(0, 1);
        is("loudness(20, 0)", x.loudness(20, 0), NO_SUCH);
        for (int number : FAR_OFF) {
            is("loudness(" + number + ", 0)", x.loudness(number, 0), NO_SUCH);
            is("loudness(0, " + number + ")", x.loudness(0, number), NO_SUCH);
        }
    }

    @Edge(promise = 14, says = "Returns the loudness of a board to a sleeper")
    static void loudnessOverCrossedAndWatchedBoards() {
        Counted x = boards("ab91;bc11;cd51");
        x.sleeper(0, 9);
        x.glide(0, 0);
        is("watched", x.count(6), 1);
        is("loudness over them", x.loudness(2, 0), 3);
        x.lay(0, 2, 1, 1);
        is("by a board less", x.loudness(2, 0), 4);
        x.lay(0, 3, 1, 1);
        is("to the other room", x.loudness(2, 0), 4);
        x.takeUp(4);
        x.takeUp(3);
        x.takeUp(1);
        is("apart", x.loudness(1, 0), 0);
    }

    // ---- promise 15

    @Edge(promise = 15, says = "NO_SUCH if there is no such room")
    static void farFromNoSuchRoom() {
        refused("far(10, 0)", NO_SUCH, x -> x.far(10, 0));
        refused("far(0, 10)", NO_SUCH, x -> x.far(0, 10));
        refused("far(-1, 0)", NO_SUCH, x -> x.far(-1, 0));
        refused("far(0, -1)", NO_SUCH, x -> x.far(0, -1));
        refused("far(10, 10)", NO_SUCH, x -> x.far(10, 10));
        Counted x = new Counted();
        for (int room : FAR_OFF) {
            is("far(" + room + ", 0)", x.far(room, 0), NO_SUCH);
            is("far(0, " + room + ")", x.far(0, room), NO_SUCH);
            is("far(" + room + ", the same)", x.far(room, room), NO_SUCH);
        }
    }

    @Edge(promise = 15, says = "NONE if they are apart")
    static void farApart() {
        Counted x = boards("ab11;bc11;hi11;ij11");
        for (int room = 0; room < 10; room++) {
            is("far(0, " + room + ")", x.far(0, room), room < 3 ? room : NONE);
            is("far(" + room + ", 9)", x.far(room, 9), room < 7 ? NONE : 9 - room);
            is("far(" + room + ", " + room + ")", x.far(room, room), 0);
        }
        x.lay(2, 7, 9, 9);
        is("far(0, 9) over all boards", x.far(0, 9), 5);
    }

    @Edge(promise = 15, says = "Returns how far two rooms are from each other")
    static void farthest() {
        Counted x = boards("ij11;hi11;gh11;fg11;ef11;de11;cd11;bc11;ab11");
        is("far(0, 9)", x.far(0, 9), 9);
        is("far(9, 0)", x.far(9, 0), 9);
        is("far(0, 8)", x.far(0, 8), 8);
        x.glide(0, 8);
        is("far over a crossed board", x.far(0, 9), 9);
    }

    // ---- promise 16

    @Edge(promise = 16, says = "BAD_VALUE if what is out of range")
    static void countOutOfRange() {
        refused("count(11)", BAD_VALUE, x -> x.count(11));
        refused("count(-1)", BAD_VALUE, x -> x.count(-1));
        Counted x = new Counted();
        for (int what : FAR_OFF) is("count(" + what + ")", x.count(what), BAD_VALUE);
    }

    @Edge(promise = 16, says = "5 those that are awake, as a set, 6 rooms that are watched, as a set")
    static void awakeAndWatched() {
        Counted x = boards("ja91");
        for (int room : new int[] {9, 0, 9, 9, 5}) x.sleeper(room, room == 5 ? 1 : 9);
        is("awake at first", x.count(5), 0);
        is("watched at first", x.count(6), 0);
        x.glide(0, 0);
        is("awake, but for the one apart", x.count(5), 0b01111);
        is("watched, three of them in one room", x.count(6), 1 << 9 | 1);
        x.pass(8);
        is("awake for the last minute", x.count(5), 0b01111);
        x.pass(1);
        is("awake", x.count(5), 0);
        is("watched", x.count(6), 0);
    }

    @Edge(promise = 16, says = "7 bells so far, 8 in how many minutes the next bell rings")
    static void bellsSoFarAndTheNext() {
        Counted x = boards("ab19;ab19");
        x.set(BELL, 10);
        is("at 0", x.count(8), 10);
        x.pass(9);
        is("at 9", x.count(8), 1);
        is("bells at 9", x.count(7), 0);
        x.pass(1);
        is("at 10", x.count(8), 10);
        is("bells at 10", x.count(7), 1);
        x.glide(0, 0);
        is("at 19", x.count(8), 1);
        x.go(0, 0);
        is("at 28", x.count(8), 2);
        is("bells at 28", x.count(7), 2);
        x.set(BELL, 28);
        is("at 28 by 28", x.count(8), 28);
        x.set(BELL, 200);
        is("at 28 by 200", x.count(8), 172);
        is("bells stay as they rang", x.count(7), 2);
    }

    @Edge(promise = 16, says = "9 the length of the pad, 10 how many changes can be undone")
    static void padAndHistory() {
        Counted x = new Counted();
        for (int i = 1; i <= 8; i++) {
            x.put(0, i);
            is("changes behind " + i, x.count(10), Math.min(i, 6));
        }
        x.undo();
        is("changes behind undo()", x.count(10), 5);
        is("length of the empty pad", x.count(9), 0);
        x.write('a');
        is("length of a character", x.count(9), 1);
        is("write() is no change", x.count(10), 5);
    }

    // ---- promise 17

    @Edge(promise = 17, says = "NO_SUCH if there is no such ghost or room")
    static void soonestOfNoSuchGhost() {
        refused("soonest(4, 0, 0)", NO_SUCH, x -> x.soonest(4, 0, 0));
        refused("soonest(-1, 0, 0)", NO_SUCH, x -> x.soonest(-1, 0, 0));
        refused("soonest(0, 10, 0)", NO_SUCH, x -> x.soonest(0, 10, 0));
        refused("soonest(0, -1, 0)", NO_SUCH, x -> x.soonest(0, -1, 0));
        refused("soonest(4, 0, -1)", NO_SUCH, x -> x.soonest(4, 0, -1));
        Counted x = many(3);
        for (int number : FAR_OFF) {
            is("soonest(" + number + ", 1, 0)", x.soonest(number, 1, 0), NO_SUCH);
            is("soonest(0, " + number + ", 0)", x.soonest(0, number, 0), NO_SUCH);
        }
    }

    @Edge(promise = 17, says = "BAD_VALUE if what is below 0")
    static void soonestBelowZero() {
        refused("soonest(0, 1, -1)", BAD_VALUE, x -> x.soonest(0, 1, -1));
        refused("soonest(0, 9, -1) without a way", BAD_VALUE, x -> x.soonest(0, 9, -1));
        Counted x = many(3);
        for (int what : FAR_OFF) is("soonest(0, 1, " + what + ")", x.soonest(0, 1, what), what < 0 ? BAD_VALUE : NONE);
    }

    @Edge(promise = 17, says = "NONE if there is no such way, or it has not so many boards")
    static void soonestBehindItsEnd() {
        Counted x = boards("ab11;bc12");
        int[] row = {3, 2, 0, 1, NONE, NONE};
        for (int what = 0; what < row.length; what++) is("soonest(0, 2, " + what + ")", x.soonest(0, 2, what), row[what]);
        for (int what = 0; what < 4; what++) is("soonest(0, 3, " + what + ")", x.soonest(0, 3, what), NONE);
        is("soonest(0, 0, 0) where it is", x.soonest(0, 0, 0), 0);
        is("soonest(0, 0, 1) where it is", x.soonest(0, 0, 1), 0);
        is("soonest(0, 0, 2) where it is", x.soonest(0, 0, 2), NONE);
        is("soonest(0, 2, 2^31 - 1)", x.soonest(0, 2, Integer.MAX_VALUE), NONE);
    }

    @Edge(promise = 17, says = "by boards that are free to it now")
    static void soonestByFreeBoards() {
        Counted x = boards("ab91;bc11;ad19;dc19;ab99");
        x.sleeper(1, 9);
        is("soonest(0, 2, 0)", x.soonest(0, 2, 0), 2);
        x.glide(1, 0);
        is("past the watched room", x.soonest(0, 2, 0), 18);
        is("past it, the first board", x.soonest(0, 2, 2), 2);
        is("to the watched room", x.soonest(0, 1, 0), NONE);
        is("out of the watched room", x.soonest(1, 2, 0), NONE);
        is("in the watched room", x.soonest(1, 1, 0), 0);
        x.pass(9);
        is("when nobody watches", x.soonest(0, 2, 0), 2);
        x.put(1, 0);
        is("past what it has crossed", x.soonest(1, 2, 0), 10);
        is("past what it has crossed, the first board", x.soonest(1, 2, 2), 4);
    }

    @Edge(promise = 17, says = "of several the one with the fewest boards")
    static void soonestWithTheFewestBoards() {
        Counted x = boards("ab13;bc13;ac16;ad12;de12;ec12");
        is("minutes", x.soonest(0, 2, 0), 6);
        is("boards", x.soonest(0, 2, 1), 1);
        is("the board, not the lowest one", x.soonest(0, 2, 2), 2);
        x.takeUp(2);
        is("of two and three boards", x.soonest(0, 2, 1), 2);
        x.takeUp(0);
        x.lay(0, 1, 1, 4);
        is("sooner with more boards", x.soonest(0, 2, 1), 3);
        is("its minutes", x.soonest(0, 2, 0), 6);
        // Eight boards of a minute each are sooner than one of nine minutes, and as soon as one of eight.
        Counted y = boards("ab11;bc11;cd11;de11;ef11;fg11;gh11;hi11");
        is("eight boards to i", y.soonest(0, 8, 1), 8);
        y.lay(0, 8, 1, 9);
        is("eight boards of 8 minutes against one of 9", y.soonest(0, 8, 1), 8);
        y.lay(0, 8, 1, 8);
        is("eight boards of 8 minutes against one of 8", y.soonest(0, 8, 1), 1);
    }

    @Edge(promise = 17, says = "of these the one whose first board has the lowest number, of these the one whose second one has, and so on")
    static void soonestWithTheLowestBoards() {
        Counted x = boards("cd11;ac11;bd11;ab11;ac11");
        is("the first board", x.soonest(0, 3, 2), 1);
        is("the second board", x.soonest(0, 3, 3), 0);
        // From b on: the second boards are 4 and 5, the third ones 1 and 0.
        Counted y = boards("de11;ce11;ab11;ab11;bc11;bd11");
        int[] row = {3, 3, 2, 4, 1, NONE};
        for (int what = 0; what < row.length; what++) is("soonest(0, 4, " + what + ")", y.soonest(0, 4, what), row[what]);
        y.put(0, 4);
        int[] back = {3, 3, 0, 5, 2, NONE};
        for (int what = 0; what < back.length; what++) is("back, soonest(0, 0, " + what + ")", y.soonest(0, 0, what), back[what]);
        Counted z = many(20);
        is("of twenty, those of 1 minute: 0, 8, 16", z.soonest(0, 1, 2), 0);
        z.glide(0, 0);
        is("of nineteen", z.soonest(0, 0, 2), 8);
    }

    @Edge(promise = 17, says = "0 its minutes, 1 its boards, how many, 2 and more the boards, one after the other")
    static void soonestOfTheLongestWay() {
        Counted x = boards("ij19;hi19;gh19;fg19;ef19;de19;cd19;bc19;ab19");
        is("minutes", x.soonest(0, 9, 0), 81);
        is("boards", x.soonest(0, 9, 1), 9);
        for (int i = 0; i < 9; i++) is("board " + i, x.soonest(0, 9, 2 + i), 8 - i);
        is("behind the last", x.soonest(0, 9, 11), NONE);
        is("go(0, 9)", x.go(0, 9), 9);
        is("minutes then", x.count(2), 81);
    }

    // ---- promise 18

    @Edge(promise = 18, says = "NO_SUCH if there is no such ghost or room")
    static void quietestOfNoSuchGhost() {
        refused("quietest(4, 0)", NO_SUCH, x -> x.quietest(4, 0));
        refused("quietest(-1, 0)", NO_SUCH, x -> x.quietest(-1, 0));
        refused("quietest(0, 10)", NO_SUCH, x -> x.quietest(0, 10));
        refused("quietest(0, -1)", NO_SUCH, x -> x.quietest(0, -1));
        Counted x = many(3);
        for (int number : FAR_OFF) {
            is("quietest(" + number + ", 1)", x.quietest(number, 1), NO_SUCH);
            is("quietest(0, " + number + ")", x.quietest(0, number), NO_SUCH);
        }
    }

    @Edge(promise = 18, says = "Returns the creak, 0 if it is there")
    static void quietestWhereItIs() {
        Counted x = boards("ab11;bc91");
        is("where it is", x.quietest(0, 0), 0);
        is("the least creak that there is", x.quietest(0, 1), 1);
        is("the greatest creak that there is", x.quietest(0, 2), 9);
        x.sleeper(2, 9);
        x.put(0, 1);
        x.glide(0, 1);
        is("where it is, watched", x.quietest(0, 2), 0);
        is("where it is, without boards", new Counted().quietest(3, 0), 0);
    }

    @Edge(promise = 18, says = "NONE if there is no such way")
    static void quietestWithoutAWay() {
        Counted x = boards("ab91;bc11");
        is("apart", x.quietest(0, 3), NONE);
        x.sleeper(1, 9);
        x.glide(0, 0);
        is("to a watched room", x.quietest(1, 1), NONE);
        is("past a watched room", x.quietest(1, 2), NONE);
        is("out of a watched room", x.quietest(0, 2), NONE);
        x.pass(9);
        is("when nobody watches", x.quietest(1, 2), 9);
        is("over what it has crossed", x.quietest(0, 0), NONE);
    }

    @Edge(promise = 18, says = "the least that the greatest creak of a way can be")
    static void quietestOfSeveralWays() {
        Counted x = boards("ab51;ac31;cd31;db21;ab41");
        is("by the longer way", x.quietest(0, 1), 3);
        x.takeUp(2);
        is("by the quieter of two boards", x.quietest(0, 1), 4);
        Counted y = boards("ij11;hi21;gh31;fg41;ef51;de61;cd71;bc81;ab91");
        is("over nine boards", y.quietest(0, 9), 9);
        y.put(0, 1);
        is("over eight boards", y.quietest(0, 9), 8);
    }

    // ---- promise 19

    @Edge(promise = 19, says = "NO_SUCH if there is no such ghost")
    static void reasonOfNoSuchGhost() {
        refused("reason(4)", NO_SUCH, x -> x.reason(4));
        refused("reason(-1)", NO_SUCH, x -> x.reason(-1));
        Counted x = new Counted();
        for (int ghost : FAR_OFF) is("reason(" + ghost + ")", x.reason(ghost), NO_SUCH);
        is("reason(3)", x.reason(3), 1);
    }

    @Edge(promise = 19, says = "Returns 0 to 5")
    static void eachReason() {
        Counted x = boards("ab11;bc11;ca11");
        is("0", x.reason(0), 0);
        x.lay(3, 4, 1, 1);
        is("3", x.reason(0), 3);
        x.lay(0, 3, 1, 1);
        is("0 with two odd rooms", x.reason(0), 0);
        x.put(1, 1);
        is("5", x.reason(1), 5);
        x.lay(0, 5, 1, 1);
        x.lay(0, 6, 1, 1);
        is("4", x.reason(0), 4);
        is("4, not 5", x.reason(1), 4);
        x.put(2, 9);
        is("2", x.reason(2), 2);
        is("1", new Counted().reason(0), 1);
    }

    // ---- promise 20

    @Edge(promise = 20, says = "NO_SUCH if there is no such ghost, or step is below 0")
    static void trailOfNoSuchGhost() {
        refused("trail(4, 0)", NO_SUCH, x -> x.trail(4, 0));
        refused("trail(-1, 0)", NO_SUCH, x -> x.trail(-1, 0));
        refused("trail(2, -1)", NO_SUCH, x -> x.trail(2, -1));
        refused("trail(4, -1)", NO_SUCH, x -> x.trail(4, -1));
        Counted x = many(2);
        for (int number : FAR_OFF) {
            is("trail(" + number + ", 0)", x.trail(number, 0), NO_SUCH);
            is("trail(0, " + number + ")", x.trail(0, number), number < 0 ? NO_SUCH : NONE);
        }
        is("trail(0, -1) without boards", new Counted().trail(0, -1), NO_SUCH);
    }

    @Edge(promise = 20, says = "NOT_POSSIBLE if its reason is not 0")
    static void trailWithAReason() {
        for (String text : new String[] {"bc11", "ab11;cd11", "ab11;ac11;ad11", "ab11;ca11"}) {
            Counted x = boards(text);
            is("trail(0, 0) of " + text, x.trail(0, 0), NOT_POSSIBLE);
            is("trail(0, 99) of " + text, x.trail(0, 99), NOT_POSSIBLE);
        }
        is("trail(0, 0) without boards", new Counted().trail(0, 0), NOT_POSSIBLE);
    }

    @Edge(promise = 20, says = "NONE if the trail has not so many")
    static void trailBehindItsEnd() {
        Counted x = boards("ab11;bc11");
        is("the last one", x.trail(0, 1), 1);
        is("behind it", x.trail(0, 2), NONE);
        is("far behind it", x.trail(0, Integer.MAX_VALUE), NONE);
        x.glide(0, 0);
        is("the last one, one is crossed", x.trail(0, 0), 1);
        is("behind it, one is crossed", x.trail(0, 1), NONE);
        Counted y = many(20);
        is("the last of twenty", y.trail(0, 19), 19);
        is("behind twenty", y.trail(0, 20), NONE);
    }

    @Edge(promise = 20, says = "0 for the first one, and so on")
    static void trailIsGlided() {
        Counted x = boards("ab11;bc11;cd11;da11;ac11;ce11;ef11;fc11");
        int[] trail = new int[8];
        for (int step = 0; step < 8; step++) trail[step] = x.trail(0, step);
        int crossed = 0;
        for (int step = 0; step < 8; step++) {
            is("the trail that is left begins with it", x.trail(0, 0), trail[step]);
            is("glide over step " + step, x.glide(0, trail[step]), 0);
            crossed |= 1 << trail[step];
        }
        is("all are crossed", crossed, 255);
        is("reason(0)", x.reason(0), 1);
    }

    // ---- promise 21

    @Edge(promise = 21, says = "BAD_VALUE if what is neither 0 nor 1")
    static void worstGapOfNeither() {
        refused("worstGap(2)", BAD_VALUE, x -> x.worstGap(2));
        refused("worstGap(-1)", BAD_VALUE, x -> x.worstGap(-1));
        Counted x = boards("ab11");
        for (int what : FAR_OFF) is("worstGap(" + what + ")", x.worstGap(what), BAD_VALUE);
        is("worstGap(2) without boards", new Counted().worstGap(2), BAD_VALUE);
    }

    @Edge(promise = 21, says = "NONE if there is no board without which any would be")
    static void worstGapOfNone() {
        for (String text : new String[] {"ab11;ab11", "ab11;bc11;ca11", "ab11;bc11;ca11;de11;ed11"}) {
            is("worstGap(0) of " + text, boards(text).worstGap(0), NONE);
            is("worstGap(1) of " + text, boards(text).worstGap(1), NONE);
        }
        is("worstGap(0) without boards", new Counted().worstGap(0), NONE);
        is("worstGap(1) without boards", new Counted().worstGap(1), NONE);
        is("worstGap(0) of one board", boards("ij11").worstGap(0), 0);
        is("worstGap(1) of one board", boards("ij11").worstGap(1), 1);
    }

    @Edge(promise = 21, says = "the most pairs of rooms that have a way now would be apart; of several the lowest")
    static void worstGapOfSeveral() {
        Counted x = boards("ef11;fg11;ab11;bc11");
        is("four with 2 pairs, the lowest", x.worstGap(0), 0);
        is("its pairs", x.worstGap(1), 2);
        x.lay(2, 3, 1, 1);
        is("the middle of a row of three", x.worstGap(0), 3);
        is("pairs of the middle", x.worstGap(1), 4);
        Counted y = boards("bc11;cd11;de11;ef11;fg11;gh11;hi11;ij11;ab11");
        is("the middle of all ten", y.worstGap(0), 3);
        is("the most pairs that there can be", y.worstGap(1), 25);
        y.lay(4, 5, 1, 1);
        is("ahead of the middle, now twofold", y.worstGap(0), 2);
        is("pairs ahead of the middle", y.worstGap(1), 24);
    }

    @Edge(promise = 21, says = "pairs of rooms that have a way now")
    static void worstGapOfCrossedAndWatchedBoards() {
        Counted x = boards("ab91;bc11");
        x.sleeper(1, 9);
        is("at first", x.worstGap(1), 2);
        x.glide(0, 0);
        is("one of them crossed, both watched", x.worstGap(1), 2);
        is("the lowest is crossed", x.worstGap(0), 0);
    }

    public static void main(String[] args) throws IOException, IllegalAccessException {
        Edges.run(EdgesOfQuestionsTest.class, 11, 21);
    }
}
