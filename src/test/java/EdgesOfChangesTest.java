import java.io.IOException;

/** The boundary cases that the promises 1 to 10 of ../shared/DOC.md name, a test for each. */
public final class EdgesOfChangesTest extends Edges {
    // ---- promise 1

    @Edge(promise = 1, says = "Creates rooms without boards, ghosts in the room 0, and no sleepers, at the minute 0")
    static void aNewObject() {
        Counted x = new Counted();
        int[] counts = {60, 10, 0, 0, 0, 0, 0, 0, 60, 0, 0};
        for (int what = 0; what < counts.length; what++) is("count(" + what + ")", x.count(what), counts[what]);
        int[] ghost = {0, 0, 0, 1, 0};
        for (int i = 0; i < 4; i++) {
            for (int what = 0; what < ghost.length; what++) is("ghost(" + i + ", " + what + ")", x.ghost(i, what), ghost[what]);
        }
        is("board(0, 0)", x.board(0, 0), NO_SUCH);
        is("sleeperOf(0, 0)", x.sleeperOf(0, 0), NO_SUCH);
        for (int room = 1; room < 10; room++) is("far(0, " + room + ")", x.far(0, room), NONE);
        is("undo()", x.undo(), NOT_POSSIBLE);
        is("restore(0)", x.restore(0), NOT_POSSIBLE);
        is("restore(1)", x.restore(1), NOT_POSSIBLE);
        is("fault()", x.fault(), 0);
    }

    @Edge(promise = 1, says = "Creates rooms")
    static void objectsHaveNothingInCommon() {
        Counted x = busy();
        Counted y = new Counted();
        is("count(3) of another one", y.count(3), 0);
        is("count(9) of another one", y.count(9), 0);
        is("restore(0) of another one", y.restore(0), NOT_POSSIBLE);
        y.lay(8, 9, 1, 1);
        is("count(3)", x.count(3), 5);
        is("board(0, 1)", x.board(0, 1), 1);
    }

    // ---- promise 2

    @Edge(promise = 2, says = "BAD_VALUE if there is no such setting")
    static void noSuchSetting() {
        refused("set(2, 20)", BAD_VALUE, x -> x.set(2, 20));
        refused("set(-1, 20)", BAD_VALUE, x -> x.set(-1, 20));
        Counted x = new Counted();
        for (int setting : FAR_OFF) is("set(" + setting + ", 20)", x.set(setting, 20), BAD_VALUE);
    }

    @Edge(promise = 2, says = "or value is out of its range")
    static void valueOfBellOutOfItsRange() {
        for (int value : new int[] {0, 9, 201}) refused("set(BELL, " + value + ")", BAD_VALUE, x -> x.set(BELL, value));
        Counted x = new Counted();
        for (int value : FAR_OFF) {
            if (value < 10 || value > 200) is("set(BELL, " + value + ")", x.set(BELL, value), BAD_VALUE);
        }
    }

    @Edge(promise = 2, says = "or value is out of its range")
    static void valueOfAwakeOutOfItsRange() {
        for (int value : new int[] {-1, 61, 200}) refused("set(AWAKE, " + value + ")", BAD_VALUE, x -> x.set(AWAKE, value));
        Counted x = new Counted();
        for (int value : FAR_OFF) {
            if (value < 0 || value > 60) is("set(AWAKE, " + value + ")", x.set(AWAKE, value), BAD_VALUE);
        }
    }

    @Edge(promise = 2, says = "Returns the previous value")
    static void thePreviousValue() {
        Counted x = new Counted();
        is("set(BELL, 10)", x.set(BELL, 10), 60);
        is("set(BELL, 10) again", x.set(BELL, 10), 10);
        is("set(BELL, 200)", x.set(BELL, 200), 10);
        is("set(AWAKE, 0)", x.set(AWAKE, 0), 10);
        is("set(AWAKE, 60)", x.set(AWAKE, 60), 0);
        is("set(AWAKE, 60) again", x.set(AWAKE, 60), 60);
        is("count(0)", x.count(0), 200);
        is("count(1)", x.count(1), 60);
    }

    @Edge(promise = 2, says = "Changes a setting")
    static void onlyTheSetting() {
        Counted x = boards("ab91;bc11");
        x.sleeper(0, 1);
        x.glide(0, 0);
        x.set(AWAKE, 60);
        is("who is awake stays so for as long as it was", x.sleeperOf(0, 2), 9);
        x.set(BELL, 10);
        is("count(7)", x.count(7), 0);
        is("ghost(0, 1)", x.ghost(0, 1), 1);
        is("count(8)", x.count(8), 9);
        x.pass(9);
        x.glide(1, 0);
        is("awake by the new setting", x.sleeperOf(0, 2), 59);
    }

    // ---- promise 3

    @Edge(promise = 3, says = "NO_SUCH if there is no such room")
    static void layInNoSuchRoom() {
        refused("lay(10, 0, 1, 1)", NO_SUCH, x -> x.lay(10, 0, 1, 1));
        refused("lay(0, 10, 1, 1)", NO_SUCH, x -> x.lay(0, 10, 1, 1));
        refused("lay(-1, 0, 1, 1)", NO_SUCH, x -> x.lay(-1, 0, 1, 1));
        refused("lay(0, -1, 1, 1)", NO_SUCH, x -> x.lay(0, -1, 1, 1));
        refused("lay(10, 10, 1, 1)", NO_SUCH, x -> x.lay(10, 10, 1, 1));
        Counted x = new Counted();
        for (int room : FAR_OFF) {
            is("lay(" + room + ", 0, 1, 1)", x.lay(room, 0, 1, 1), NO_SUCH);
            is("lay(0, " + room + ", 1, 1)", x.lay(0, room, 1, 1), NO_SUCH);
            is("lay(" + room + ", the same, 0, 0)", x.lay(room, room, 0, 0), NO_SUCH);
        }
    }

    @Edge(promise = 3, says = "BAD_VALUE if both rooms are the same")
    static void layFromARoomToItself() {
        refused("lay(0, 0, 1, 1)", BAD_VALUE, x -> x.lay(0, 0, 1, 1));
        refused("lay(9, 9, 9, 9)", BAD_VALUE, x -> x.lay(9, 9, 9, 9));
    }

    @Edge(promise = 3, says = "or creak or minutes is out of range")
    static void layWithCreakOrMinutesOutOfRange() {
        for (int value : new int[] {-1, 0, 10}) {
            refused("lay(0, 1, " + value + ", 1)", BAD_VALUE, x -> x.lay(0, 1, value, 1));
            refused("lay(0, 1, 1, " + value + ")", BAD_VALUE, x -> x.lay(0, 1, 1, value));
        }
        Counted x = new Counted();
        for (int value : FAR_OFF) {
            is("lay(0, 1, " + value + ", 1)", x.lay(0, 1, value, 1), BAD_VALUE);
            is("lay(0, 1, 1, " + value + ")", x.lay(0, 1, 1, value), BAD_VALUE);
        }
        is("lay(0, 1, 1, 9)", x.lay(0, 1, 1, 9), 0);
        is("lay(0, 1, 9, 1)", x.lay(0, 1, 9, 1), 1);
    }

    @Edge(promise = 3, says = "TOO_MANY if there are 20 boards")
    static void layWhenThereAreTwenty() {
        refusedOn(many(20), many(20), "lay(0, 1, 1, 1)", TOO_MANY, x -> x.lay(0, 1, 1, 1));
        Counted x = many(20);
        x.takeUp(5);
        is("lay with 19", x.lay(0, 1, 1, 1), 19);
        is("lay with 20", x.lay(0, 1, 1, 1), TOO_MANY);
        x.undo();
        is("lay with 19 by undo()", x.lay(0, 1, 1, 1), 19);
    }

    // ---- promise 4

    @Edge(promise = 4, says = "Lays the boards of the pad, one after the other, and empties the pad")
    static void readsOneAfterTheOther() {
        Counted x = boards("ij99");
        written(x, "ab12;dc34;ae56");
        is("read()", x.read(), 4);
        int[][] rows = {{8, 9, 9, 9}, {0, 1, 1, 2}, {2, 3, 3, 4}, {0, 4, 5, 6}};
        for (int i = 0; i < 4; i++) {
            for (int what = 0; what < 4; what++) is("board(" + i + ", " + what + ")", x.board(i, what), rows[i][what]);
            is("board(" + i + ", 4)", x.board(i, 4), 0);
            is("board(" + i + ", 6)", x.board(i, 6), 0);
        }
        is("count(9)", x.count(9), 0);
        is("fault()", x.fault(), 0);
        is("read() of the empty pad", x.read(), BAD_TEXT);
    }

    @Edge(promise = 4, says = "BAD_TEXT if the pad has a fault")
    static void readsNoFault() {
        for (String text : new String[] {"", "a", "ab11;", "ab1", "ab11;bc1x", "aa11", "ab11;bc11;cd11;d"}) {
            refusedOn(written(boards("ab11"), text), written(boards("ab11"), text), "read() of " + text, BAD_TEXT, Counted::read);
        }
        refused("read() of ab12;b", BAD_TEXT, Counted::read);
    }

    @Edge(promise = 4, says = "TOO_MANY if there would be more than 20")
    static void readsNotMoreThanTwenty() {
        Counted x = written(many(19), "ab11");
        is("read() of 1 to 19", x.read(), 20);
        for (int i = 17; i <= 20; i++) {
            String text = "cd19;de28;ef37;fg46".substring(0, 5 * (20 - i) + 4);
            refusedOn(written(many(i), text), written(many(i), text), "read() of " + (21 - i) + " to " + i, TOO_MANY, Counted::read);
        }
        String twelve = "ab11;ab11;ab11;ab11;ab11;ab11;ab11;ab11;ab11;ab11;ab11;ab11";
        is("read() of 12 to 8", written(many(8), twelve).read(), 20);
        refusedOn(written(many(9), twelve), written(many(9), twelve), "read() of 12 to 9", TOO_MANY, Counted::read);
    }

    @Edge(promise = 4, says = "TOO_MANY if there would be more than 20")
    static void readsWhatStayedOnThePad() {
        Counted x = written(many(20), "cd19");
        is("read() of 1 to 20", x.read(), TOO_MANY);
        x.takeUp(0);
        is("read() of 1 to 19", x.read(), 20);
        is("board(19, 3)", x.board(19, 3), 9);
        is("count(9)", x.count(9), 0);
    }

    // ---- promise 5

    @Edge(promise = 5, says = "NO_SUCH if there is no such board")
    static void takesUpNoSuchBoard() {
        refused("takeUp(5)", NO_SUCH, x -> x.takeUp(5));
        refused("takeUp(-1)", NO_SUCH, x -> x.takeUp(-1));
        refusedOn(many(20), many(20), "takeUp(20)", NO_SUCH, x -> x.takeUp(20));
        is("takeUp(0) of none", new Counted().takeUp(0), NO_SUCH);
        Counted x = many(20);
        for (int board : FAR_OFF) is("takeUp(" + board + ")", x.takeUp(board), NO_SUCH);
    }

    @Edge(promise = 5, says = "Returns how many boards there are then")
    static void takesUpAll() {
        Counted x = many(20);
        for (int boards = 19; boards >= 0; boards--) is("takeUp(0)", x.takeUp(0), boards);
        is("takeUp(0) of none", x.takeUp(0), NO_SUCH);
        is("lay", x.lay(0, 1, 1, 1), 0);
    }

    @Edge(promise = 5, says = "Takes a board up")
    static void whatWasCrossedMovesUpToo() {
        for (int taken : new int[] {0, 1, 10, 18, 19}) {
            for (int ghost = 0; ghost < 4; ghost++) takesUpWhatWasCrossed(taken, ghost);
        }
    }

    private static void takesUpWhatWasCrossed(int taken, int ghost) {
        int other = (ghost + 1) % 4;
        Counted x = new Counted();
        for (int i = 0; i < 20; i++) x.lay(0, 1, 9, 1);
        for (int board : new int[] {0, 1, 10, 18, 19}) x.glide(ghost, board);
        x.glide(other, taken);
        int all = 1 | 2 | 1 << 10 | 1 << 18 | 1 << 19;
        is("crossed before", x.ghost(ghost, 1), all);
        x.takeUp(taken);
        int want = 0;
        for (int i = 0; i < 19; i++) if ((all >> (i < taken ? i : i + 1) & 1) != 0) want |= 1 << i;
        is("crossed by " + ghost + " behind takeUp(" + taken + ")", x.ghost(ghost, 1), want);
        is("crossed behind it by who crossed it alone", x.ghost(other, 1), 0);
        is("how often it crossed any", x.ghost(ghost, 4), 5);
        for (int i = 0; i < 19; i++) is("creaked of " + i, x.board(i, 6), want >> i & 1);
        is("lay in the last place", x.lay(0, 1, 9, 1), 19);
        is("crossed of the new one", x.board(19, 4), 0);
        is("creaked of the new one", x.board(19, 6), 0);
    }

    @Edge(promise = 5, says = "Takes a board up")
    static void takesUpWithASleeperAwake() {
        Counted x = boards("ab91;bc11;cd11");
        x.sleeper(3, 7);
        x.glide(0, 0);
        x.takeUp(2);
        is("who is awake stays so, though apart then", x.sleeperOf(0, 2), 9);
        is("its room stays watched", x.count(6), 8);
        is("boards that would wake it", x.sleeperOf(0, 4), 0);
        is("minutes", x.count(2), 1);
        is("room of the ghost", x.ghost(0, 0), 1);
    }

    // ---- promise 6

    @Edge(promise = 6, says = "NO_SUCH if there is no such room")
    static void sleepsInNoSuchRoom() {
        refused("sleeper(10, 1)", NO_SUCH, x -> x.sleeper(10, 1));
        refused("sleeper(-1, 1)", NO_SUCH, x -> x.sleeper(-1, 1));
        refused("sleeper(10, 0)", NO_SUCH, x -> x.sleeper(10, 0));
        Counted x = new Counted();
        for (int room : FAR_OFF) is("sleeper(" + room + ", 1)", x.sleeper(room, 1), NO_SUCH);
    }

    @Edge(promise = 6, says = "BAD_VALUE if ear is out of range")
    static void earOutOfRange() {
        for (int ear : new int[] {-1, 0, 10}) refused("sleeper(0, " + ear + ")", BAD_VALUE, x -> x.sleeper(0, ear));
        Counted x = new Counted();
        for (int ear : FAR_OFF) is("sleeper(9, " + ear + ")", x.sleeper(9, ear), BAD_VALUE);
        is("sleeper(9, 1)", x.sleeper(9, 1), 0);
        is("sleeper(0, 9)", x.sleeper(0, 9), 1);
    }

    private static Counted withFiveSleepers() {
        Counted x = busy();
        for (int i = 2; i < 5; i++) is("sleeper " + i, x.sleeper(i, 9), i);
        return x;
    }

    @Edge(promise = 6, says = "TOO_MANY if there are 5")
    static void sleepersWhenThereAreFive() {
        refusedOn(withFiveSleepers(), withFiveSleepers(), "sleeper(0, 1)", TOO_MANY, x -> x.sleeper(0, 1));
        Counted x = withFiveSleepers();
        x.undo();
        is("sleeper(0, 1) with 4", x.sleeper(0, 1), 4);
        is("sleeper(0, 1) with 5", x.sleeper(0, 1), TOO_MANY);
    }

    @Edge(promise = 6, says = "A sleeper comes, asleep")
    static void comesAsleep() {
        Counted x = boards("ab91");
        x.sleeper(0, 1);
        x.glide(0, 0);
        is("sleeper(0, 1) where one is awake", x.sleeper(0, 1), 1);
        is("awake", x.sleeperOf(1, 2), 0);
        is("woke", x.sleeperOf(1, 3), 0);
        is("who is awake", x.count(5), 1);
        x.undo();
        x.sleeper(1, 9);
        is("ear in the place of one that was undone", x.sleeperOf(1, 1), 9);
    }

    // ---- promise 7

    @Edge(promise = 7, says = "NO_SUCH if there is no such ghost or room")
    static void putsNoSuchGhost() {
        refused("put(4, 0)", NO_SUCH, x -> x.put(4, 0));
        refused("put(-1, 0)", NO_SUCH, x -> x.put(-1, 0));
        refused("put(0, 10)", NO_SUCH, x -> x.put(0, 10));
        refused("put(0, -1)", NO_SUCH, x -> x.put(0, -1));
        Counted x = new Counted();
        for (int number : FAR_OFF) {
            is("put(" + number + ", 0)", x.put(number, 0), NO_SUCH);
            is("put(0, " + number + ")", x.put(0, number), NO_SUCH);
        }
    }

    @Edge(promise = 7, says = "without a sound; what it has crossed stays")
    static void putsWithoutASound() {
        Counted x = boards("ab11;bc91");
        x.sleeper(2, 1);
        x.glide(3, 0);
        is("put(3, 2), past a board that would wake it", x.put(3, 2), 1);
        is("woke", x.sleeperOf(0, 3), 0);
        is("creaked", x.board(1, 6), 0);
        is("minutes", x.count(2), 1);
        is("crossed", x.ghost(3, 1), 1);
        is("crossings", x.ghost(3, 4), 1);
        is("put(3, 2) where it is", x.put(3, 2), 2);
        is("put(3, 9)", x.put(3, 9), 2);
        is("put(3, 0)", x.put(3, 0), 9);
        is("glide(3, 0) that it has crossed", x.glide(3, 0), NOT_POSSIBLE);
    }

    @Edge(promise = 7, says = "Puts a ghost into a room")
    static void putsIntoAWatchedRoom() {
        Counted x = boards("ab91;bc11");
        x.sleeper(1, 9);
        x.glide(0, 0);
        is("watched", x.count(6), 2);
        is("put(1, 1)", x.put(1, 1), 0);
        is("put(1, 2) out of it", x.put(1, 2), 1);
        is("room of 0", x.ghost(0, 0), 1);
    }

    // ---- promise 8

    @Edge(promise = 8, says = "NO_SUCH if there is no such ghost or board")
    static void glidesOverNoSuchBoard() {
        refused("glide(4, 0)", NO_SUCH, x -> x.glide(4, 0));
        refused("glide(-1, 0)", NO_SUCH, x -> x.glide(-1, 0));
        refused("glide(0, 5)", NO_SUCH, x -> x.glide(0, 5));
        refused("glide(0, -1)", NO_SUCH, x -> x.glide(0, -1));
        Counted x = many(20);
        is("glide(0, 20)", x.glide(0, 20), NO_SUCH);
        for (int number : FAR_OFF) {
            is("glide(" + number + ", 0)", x.glide(number, 0), NO_SUCH);
            is("glide(0, " + number + ")", x.glide(0, number), NO_SUCH);
        }
    }

    @Edge(promise = 8, says = "NOT_POSSIBLE if the board is not at its room, or not free to it")
    static void glidesOverABoardElsewhere() {
        refused("glide(2, 4) from a over ef", NOT_POSSIBLE, x -> x.glide(2, 4));
        Counted x = boards("bc11;ab11;ca11");
        is("glide(0, 0) from a", x.glide(0, 0), NOT_POSSIBLE);
        is("glide(0, 1) from the lower room", x.glide(0, 1), 0);
        is("glide(0, 2) from b", x.glide(0, 2), NOT_POSSIBLE);
        is("glide(0, 0) from b", x.glide(0, 0), 0);
        is("glide(0, 2) from the greater room", x.glide(0, 2), 0);
        is("room", x.ghost(0, 0), 0);
    }

    @Edge(promise = 8, says = "NOT_POSSIBLE if the board is not at its room, or not free to it")
    static void glidesOverABoardThatIsNotFree() {
        refused("glide(0, 0) that it has crossed", NOT_POSSIBLE, x -> x.glide(0, 0));
        refused("glide(0, 1) to a watched room", NOT_POSSIBLE, x -> x.glide(0, 1));
        Counted x = boards("ab91;bc11;ab11");
        x.sleeper(1, 9);
        x.glide(0, 0);
        is("glide(0, 1) out of a watched room", x.glide(0, 1), NOT_POSSIBLE);
        is("glide(1, 2) into a watched room", x.glide(1, 2), NOT_POSSIBLE);
        x.pass(9);
        is("glide(1, 2) when nobody watches", x.glide(1, 2), 0);
        is("glide(1, 0) that another one has crossed", x.glide(1, 0), 1);
    }

    @Edge(promise = 8, says = "Returns the sleepers who wake by its creak (also those who are awake already), as a set")
    static void whoWakesByItsCreak() {
        Counted x = boards("ab91;ab11;ab71");
        for (int ear : new int[] {7, 8, 6, 9}) x.sleeper(3, ear);
        x.lay(1, 3, 1, 1);
        is("glide(0, 0), loudness 8", x.glide(0, 0), 0b0111);
        is("glide(0, 1), loudness 0", x.glide(0, 1), 0);
        is("glide(0, 2), loudness 6", x.glide(0, 2), 0b0100);
        is("awake of 0", x.sleeperOf(0, 2), 7);
        is("awake of 2", x.sleeperOf(2, 2), 9);
        x.sleeper(1, 1);
        x.put(1, 1);
        is("glide(1, 2), where the fifth one is", x.glide(1, 2), 0b10100);
    }

    // ---- promise 9

    @Edge(promise = 9, says = "NO_SUCH if there is no such ghost or room")
    static void goesToNoSuchRoom() {
        refused("go(4, 0)", NO_SUCH, x -> x.go(4, 0));
        refused("go(-1, 0)", NO_SUCH, x -> x.go(-1, 0));
        refused("go(0, 10)", NO_SUCH, x -> x.go(0, 10));
        refused("go(0, -1)", NO_SUCH, x -> x.go(0, -1));
        Counted x = many(20);
        for (int number : FAR_OFF) {
            is("go(" + number + ", 1)", x.go(number, 1), NO_SUCH);
            is("go(0, " + number + ")", x.go(0, number), NO_SUCH);
        }
    }

    @Edge(promise = 9, says = "NOT_POSSIBLE if there is no such way")
    static void goesWithoutAWay() {
        refused("go(2, 9)", NOT_POSSIBLE, x -> x.go(2, 9));
        refused("go(2, 2) to a watched room", NOT_POSSIBLE, x -> x.go(2, 2));
        refused("go(0, 0) over what it has crossed", NOT_POSSIBLE, x -> x.go(0, 0));
    }

    @Edge(promise = 9, says = "Returns the room in which it is then")
    static void goesToWhereItIs() {
        Counted x = boards("ab91;bc11");
        is("go(0, 0)", x.go(0, 0), 0);
        is("minutes", x.count(2), 0);
        is("crossings", x.ghost(0, 4), 0);
        is("a change all the same", x.count(10), 3);
        x.sleeper(1, 9);
        is("go(0, 1)", x.go(0, 1), 1);
        is("go(0, 1) in a watched room", x.go(0, 1), 1);
        is("go(0, 2) out of it", x.go(0, 2), NOT_POSSIBLE);
    }

    @Edge(promise = 9, says = "over one board after the other, as long as each is free to it when it is its turn")
    static void goesAsLongAsEachIsFree() {
        // The creak of ab wakes who is in d, so the way ends ahead of cd; the way round by e stays untried.
        Counted x = boards("ab91;bc11;cd11;ce19;ed19");
        x.sleeper(3, 7);
        is("soonest(0, 3, 1)", x.soonest(0, 3, 1), 3);
        is("go(0, 3)", x.go(0, 3), 2);
        is("crossed", x.ghost(0, 1), 0b11);
        is("minutes", x.count(2), 2);
        is("creaked of cd", x.board(2, 6), 0);
        // Only c is watched then: a way round from b stays untried too.
        Counted y = boards("ab91;bc11;cd11;be12;ed12");
        y.sleeper(2, 8);
        is("go(0, 3) past c", y.go(0, 3), 1);
        is("soonest(0, 3, 1) from there", y.soonest(0, 3, 1), 2);
        is("changes", y.count(10), 6);
    }

    @Edge(promise = 9, says = "as long as each is free to it when it is its turn")
    static void goesOnWhenTheWatchIsOver() {
        for (int awake = 3; awake <= 6; awake++) {
            // Behind ab 1 minute has passed, behind bc 5.
            Counted x = boards("ab91;bc14;cd11");
            x.sleeper(3, 7);
            x.set(AWAKE, awake);
            is("go(0, 3) with AWAKE " + awake, x.go(0, 3), awake <= 5 ? 3 : 2);
            is("woke", x.sleeperOf(0, 3), 1);
        }
    }

    @Edge(promise = 9, says = "Lets a ghost glide along the soonest way to a room, as soonest() tells it")
    static void goesAlongTheSoonestWay() {
        Counted x = boards("ac19;ab14;bc14;ac18;ab13");
        is("go(0, 2)", x.go(0, 2), 2);
        is("crossed: of 7 minutes", x.ghost(0, 1), 0b10100);
        is("minutes", x.count(2), 7);
        is("crossings", x.ghost(0, 4), 2);
        is("creaked of ab", x.board(4, 6), 1);
        is("changes: all of it is one", x.count(10), 6);
        x.undo();
        is("room behind undo()", x.ghost(0, 0), 0);
        is("minutes behind undo()", x.count(2), 0);
    }

    @Edge(promise = 9, says = "over one board after the other")
    static void goesThroughBells() {
        Counted x = boards("ab15;bc15;cd15;de15");
        x.set(BELL, 10);
        is("go(0, 4)", x.go(0, 4), 4);
        is("bells", x.count(7), 2);
        is("crossed since the last one, which rang on de", x.ghost(0, 1), 0b1000);
        is("go(0, 0) back", x.go(0, 0), NOT_POSSIBLE);
        is("go(0, 3) over it", x.go(0, 3), NOT_POSSIBLE);
        is("crossings", x.ghost(0, 4), 4);
    }

    // ---- promise 10

    @Edge(promise = 10, says = "BAD_VALUE if minutes is out of range")
    static void minutesOutOfRange() {
        for (int minutes : new int[] {-1, 0, 201}) refused("pass(" + minutes + ")", BAD_VALUE, x -> x.pass(minutes));
        Counted x = new Counted();
        for (int minutes : FAR_OFF) {
            if (minutes < 1 || minutes > 200) is("pass(" + minutes + ")", x.pass(minutes), BAD_VALUE);
        }
        is("pass(1)", x.pass(1), 0);
        is("pass(200)", x.pass(200), 3);
        is("minutes", x.count(2), 201);
    }

    @Edge(promise = 10, says = "Returns how many bells ring in them")
    static void bellsThatRing() {
        Counted x = new Counted();
        x.set(BELL, 10);
        is("pass(9)", x.pass(9), 0);
        is("pass(1) to the bell", x.pass(1), 1);
        is("pass(1) behind the bell", x.pass(1), 0);
        is("pass(200)", x.pass(200), 20);
        is("pass(199)", x.pass(199), 20);
        is("pass(199) from a bell on", x.pass(199), 19);
        is("count(7)", x.count(7), 60);
        is("count(2)", x.count(2), 609);
        x.set(BELL, 200);
        is("pass(190) to 799", x.pass(190), 0);
        is("pass(200) to 999", x.pass(200), 1);
        is("pass(1) to 1000", x.pass(1), 1);
    }

    @Edge(promise = 10, says = "TOO_MANY if the minutes would be above 99999")
    static void minutesAboveTheLastOne() {
        Counted x = new Counted();
        for (int i = 0; i < 499; i++) x.pass(200);
        is("pass(200) to 100000", x.pass(200), TOO_MANY);
        is("pass(201)", x.pass(201), BAD_VALUE);
        is("minutes", x.count(2), 99800);
        is("pass(199) to 99999", x.pass(199), 3);
        is("pass(1) to 100000", x.pass(1), TOO_MANY);
        is("pass(0)", x.pass(0), BAD_VALUE);
        is("minutes at last", x.count(2), 99999);
        is("changes", x.count(10), 6);
        is("undo()", x.undo(), 5);
        is("pass(200) again", x.pass(200), TOO_MANY);
    }

    public static void main(String[] args) throws IOException, IllegalAccessException {
        Edges.run(EdgesOfChangesTest.class, 1, 10);
    }
}
