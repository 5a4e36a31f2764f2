/** For each promise of ../shared/DOC.md its ordinary answers, the edges that it names, and wrong inputs. */
public final class PromisesTest {
    private static final int NO_SUCH = -1, BAD_VALUE = -2, BAD_TEXT = -3, TOO_MANY = -4, NOT_POSSIBLE = -5, NONE = -6;
    private static final int BELL = 0, AWAKE = 1;
    private static final int[] WILD = {Integer.MIN_VALUE, -33, -32, -7, -1, 32, 64, Integer.MAX_VALUE};

    private static int wrong = 0;
    private static String promise = "";

    private static void due(String call, long got, long want) {
        if (got != want) {
            wrong++;
            System.out.println(promise + ": " + call + " answered " + got + ", due is " + want);
        }
    }

    /** Packs at most 8 characters the way write() takes them. */
    private static long packed(String text) {
        long characters = 0;
        for (int i = 0; i < text.length(); i++) characters = characters << 8 | text.charAt(i);
        return characters;
    }

    private static void writeAll(Counted x, String text) {
        for (int i = 0; i < text.length(); i += 8) {
            int end = Math.min(i + 8, text.length());
            due("write of \"" + text.substring(i, end) + "\"", x.write(packed(text.substring(i, end))), x.count(9));
        }
        due("length of the pad", x.count(9), text.length());
    }

    private static Counted withBoards(String text) {
        Counted x = new Counted();
        writeAll(x, text);
        due("read() of " + text, x.read(), (text.length() + 1) / 5);
        return x;
    }

    /** Every answer that tells of the state, but for pad and history. */
    private static String stateOf(Counted x) {
        StringBuilder all = new StringBuilder();
        for (int what = 0; what <= 8; what++) all.append(x.count(what)).append(' ');
        for (int i = 0; i < x.count(3); i++) {
            for (int what = 0; what <= 6; what++) all.append(x.board(i, what)).append(' ');
        }
        for (int i = 0; i < 4; i++) {
            for (int what = 0; what <= 4; what++) all.append(x.ghost(i, what)).append(' ');
        }
        for (int i = 0; i < x.count(4); i++) {
            for (int what = 0; what <= 4; what++) all.append(x.sleeperOf(i, what)).append(' ');
        }
        return all.toString();
    }

    private static void same(String call, String got, String want) {
        if (!got.equals(want)) {
            wrong++;
            System.out.println(promise + ": behind " + call + " the state is " + got + ", due is " + want);
        }
    }

    private static void constants() {
        due("NO_SUCH", CreakingGhosts.NO_SUCH, -1);
        due("BAD_VALUE", CreakingGhosts.BAD_VALUE, -2);
        due("BAD_TEXT", CreakingGhosts.BAD_TEXT, -3);
        due("TOO_MANY", CreakingGhosts.TOO_MANY, -4);
        due("NOT_POSSIBLE", CreakingGhosts.NOT_POSSIBLE, -5);
        due("NONE", CreakingGhosts.NONE, -6);
        due("BELL", CreakingGhosts.BELL, 0);
        due("AWAKE", CreakingGhosts.AWAKE, 1);
    }

    private static void promise1NewObject() {
        Counted x = new Counted();
        int[] counts = {60, 10, 0, 0, 0, 0, 0, 0, 60, 0, 0};
        for (int what = 0; what < counts.length; what++) due("count(" + what + ")", x.count(what), counts[what]);
        for (int ghost = 0; ghost < 4; ghost++) {
            due("room of ghost " + ghost, x.ghost(ghost, 0), 0);
            due("boards crossed by ghost " + ghost, x.ghost(ghost, 1), 0);
            due("free boards of ghost " + ghost, x.ghost(ghost, 2), 0);
            due("rooms of ghost " + ghost, x.ghost(ghost, 3), 1);
            due("crossings of ghost " + ghost, x.ghost(ghost, 4), 0);
        }
        due("undo()", x.undo(), NOT_POSSIBLE);
        due("restore(0)", x.restore(0), NOT_POSSIBLE);
        due("restore(1)", x.restore(1), NOT_POSSIBLE);
        due("fault()", x.fault(), 0);
        x.lay(0, 1, 1, 1);
        due("count(3) of another object", new Counted().count(3), 0);
    }

    private static void promise2Set() {
        Counted x = new Counted();
        due("set(BELL, 10)", x.set(BELL, 10), 60);
        due("set(BELL, 200)", x.set(BELL, 200), 10);
        due("set(AWAKE, 0)", x.set(AWAKE, 0), 10);
        due("set(AWAKE, 60)", x.set(AWAKE, 60), 0);
        due("count(0)", x.count(0), 200);
        due("count(1)", x.count(1), 60);
        due("set(BELL, 9)", x.set(BELL, 9), BAD_VALUE);
        due("set(BELL, 201)", x.set(BELL, 201), BAD_VALUE);
        due("set(AWAKE, -1)", x.set(AWAKE, -1), BAD_VALUE);
        due("set(AWAKE, 61)", x.set(AWAKE, 61), BAD_VALUE);
        for (int wild : WILD) {
            due("set(" + wild + ", 20)", x.set(wild, 20), BAD_VALUE);
            due("set(BELL, wild)", x.set(BELL, wild), wild == 32 || wild == 64 ? 200 : BAD_VALUE);
            x.set(BELL, 200);
        }
        due("set(2, 20)", x.set(2, 20), BAD_VALUE);
        due("count(1) at last", x.count(1), 60);

        // A bell that is set anew rings by the count of minutes, not from the change on.
        Counted y = new Counted();
        y.pass(50);
        y.set(BELL, 25);
        due("count(7)", y.count(7), 0);
        due("count(8)", y.count(8), 25);
        due("pass(24)", y.pass(24), 0);
        due("pass(1)", y.pass(1), 1);

        // Who is awake stays so for as long as it was.
        Counted z = withBoards("ab91");
        z.sleeper(5, 1);
        z.sleeper(1, 9);
        z.glide(0, 0);
        z.set(AWAKE, 60);
        due("sleeperOf(1, 2)", z.sleeperOf(1, 2), 9);
    }

    private static void promise3Lay() {
        Counted x = new Counted();
        due("lay(0, 9, 1, 9)", x.lay(0, 9, 1, 9), 0);
        due("lay(9, 0, 9, 1)", x.lay(9, 0, 9, 1), 1);
        due("board(1, 0)", x.board(1, 0), 0);
        due("board(1, 1)", x.board(1, 1), 9);
        due("board(1, 2)", x.board(1, 2), 9);
        due("board(1, 3)", x.board(1, 3), 1);
        due("lay(10, 0, 1, 1)", x.lay(10, 0, 1, 1), NO_SUCH);
        due("lay(0, 10, 1, 1)", x.lay(0, 10, 1, 1), NO_SUCH);
        due("lay(-1, 0, 1, 1)", x.lay(-1, 0, 1, 1), NO_SUCH);
        due("lay(0, -1, 1, 1)", x.lay(0, -1, 1, 1), NO_SUCH);
        due("lay(10, 10, 0, 0)", x.lay(10, 10, 0, 0), NO_SUCH);
        due("lay(3, 3, 1, 1)", x.lay(3, 3, 1, 1), BAD_VALUE);
        due("lay(0, 1, 0, 1)", x.lay(0, 1, 0, 1), BAD_VALUE);
        due("lay(0, 1, 10, 1)", x.lay(0, 1, 10, 1), BAD_VALUE);
        due("lay(0, 1, 1, 0)", x.lay(0, 1, 1, 0), BAD_VALUE);
        due("lay(0, 1, 1, 10)", x.lay(0, 1, 1, 10), BAD_VALUE);
        for (int wild : WILD) {
            due("lay(wild, 1, 1, 1)", x.lay(wild, 1, 1, 1), NO_SUCH);
            due("lay(1, wild, 1, 1)", x.lay(1, wild, 1, 1), NO_SUCH);
            due("lay(0, 1, wild, 1)", x.lay(0, 1, wild, 1), BAD_VALUE);
            due("lay(0, 1, 1, wild)", x.lay(0, 1, 1, wild), BAD_VALUE);
        }
        for (int i = 2; i < 20; i++) due("lay as board " + i, x.lay(i % 9, 9, 1 + i % 9, 1), i);
        due("lay of the board 20", x.lay(0, 1, 1, 1), TOO_MANY);
        due("lay(0, 0, 1, 1) when full", x.lay(0, 0, 1, 1), BAD_VALUE);
        due("count(3)", x.count(3), 20);
    }

    private static void promise4Read() {
        Counted x = new Counted();
        due("read() of nothing", x.read(), BAD_TEXT);
        writeAll(x, "ja19;bc82");
        due("read()", x.read(), 2);
        due("count(9)", x.count(9), 0);
        int[] first = {0, 9, 1, 9};
        int[] second = {1, 2, 8, 2};
        for (int what = 0; what < 4; what++) {
            due("board(0, " + what + ")", x.board(0, what), first[what]);
            due("board(1, " + what + ")", x.board(1, what), second[what]);
        }
        due("read() again", x.read(), BAD_TEXT);
        writeAll(x, "ab12;");
        due("read() of a text that ends too early", x.read(), BAD_TEXT);
        due("count(9) behind an error", x.count(9), 5);
        due("count(10) behind errors", x.count(10), 1);
        x.wipe();
        writeAll(x, "ab11;bc11;cd11;de11;ef11;fg11;gh11;hi11;ij11;ja11;ac11;bd11");
        due("read() of 12", x.read(), 14);
        writeAll(x, "ab11;bc11;cd11;de11;ef11;fg11;gh11");
        due("read() of 7 to 14", x.read(), TOO_MANY);
        due("count(9) behind TOO_MANY", x.count(9), 34);
        due("count(3) behind TOO_MANY", x.count(3), 14);
        x.wipe();
        writeAll(x, "ab11;bc11;cd11;de11;ef11;fg39");
        due("read() of 6 to 14", x.read(), 20);
        due("board(19, 3)", x.board(19, 3), 9);
        writeAll(x, "ab1x");
        due("read() of a fault when full", x.read(), BAD_TEXT);
        due("undo()", x.undo(), 2);
        due("count(3) behind undo()", x.count(3), 14);
        due("count(9) behind undo()", x.count(9), 4);
    }

    private static void promise5TakeUp() {
        Counted x = withBoards("ab19;bc28;cd37;de46");
        x.glide(0, 0);
        x.glide(0, 1);
        x.glide(0, 2);
        x.put(1, 4);
        x.glide(1, 3);
        due("takeUp(1)", x.takeUp(1), 3);
        int[] creaks = {1, 3, 4};
        int[] minutes = {9, 7, 6};
        for (int i = 0; i < 3; i++) {
            due("room of " + i, x.board(i, 0), i == 0 ? 0 : i + 1);
            due("other room of " + i, x.board(i, 1), i == 0 ? 1 : i + 2);
            due("creak of " + i, x.board(i, 2), creaks[i]);
            due("minutes of " + i, x.board(i, 3), minutes[i]);
            due("crossed of " + i, x.board(i, 4), i == 2 ? 2 : 1);
            due("creaked of " + i, x.board(i, 6), 1);
        }
        due("ghost(0, 1)", x.ghost(0, 1), 3);
        due("ghost(0, 4)", x.ghost(0, 4), 3);
        due("ghost(1, 1)", x.ghost(1, 1), 4);
        due("takeUp(3)", x.takeUp(3), NO_SUCH);
        due("takeUp(-1)", x.takeUp(-1), NO_SUCH);
        for (int wild : WILD) due("takeUp(wild)", x.takeUp(wild), NO_SUCH);
        due("takeUp(2)", x.takeUp(2), 2);
        due("ghost(1, 1) then", x.ghost(1, 1), 0);
        due("takeUp(0)", x.takeUp(0), 1);
        due("ghost(0, 1) then", x.ghost(0, 1), 1);
        due("takeUp(0) at last", x.takeUp(0), 0);
        due("takeUp(0) of none", x.takeUp(0), NO_SUCH);
        due("lay behind that", x.lay(0, 1, 1, 1), 0);
        due("board(0, 4) is new", x.board(0, 4), 0);
        due("board(0, 6) is new", x.board(0, 6), 0);
        takeUpOneOfTwenty();
    }

    private static void takeUpOneOfTwenty() {
        Counted x = new Counted();
        for (int i = 0; i < 20; i++) x.lay(i % 9, 9, 1 + i % 9, 1);
        for (int ghost = 0; ghost < 4; ghost++) {
            x.put(ghost, 1);
            if (ghost > 0) x.glide(ghost, 19);
        }
        due("takeUp(7) of twenty", x.takeUp(7), 19);
        due("room of the last", x.board(18, 0), 1);
        due("creak of the last", x.board(18, 2), 2);
        due("crossed of the last", x.board(18, 4), 14);
        due("creaked of the last", x.board(18, 6), 3);
        due("creaked of the one before", x.board(17, 6), 0);
        due("takeUp(18)", x.takeUp(18), 18);
        due("lay in its place", x.lay(1, 2, 3, 4), 18);
        due("creaked of the new one", x.board(18, 6), 0);
        due("crossed of the new one", x.board(18, 4), 0);
    }

    private static void promise6Sleeper() {
        Counted x = new Counted();
        due("sleeper(10, 0)", x.sleeper(10, 0), NO_SUCH);
        due("sleeper(-1, 1)", x.sleeper(-1, 1), NO_SUCH);
        due("sleeper(0, 0)", x.sleeper(0, 0), BAD_VALUE);
        due("sleeper(0, 10)", x.sleeper(0, 10), BAD_VALUE);
        for (int wild : WILD) {
            due("sleeper(wild, 1)", x.sleeper(wild, 1), NO_SUCH);
            due("sleeper(0, wild)", x.sleeper(0, wild), BAD_VALUE);
        }
        for (int i = 0; i < 5; i++) due("sleeper " + i, x.sleeper(9 - i, 9 - 2 * i), i);
        due("sleeper 5", x.sleeper(0, 1), TOO_MANY);
        due("sleeper(0, 0) when full", x.sleeper(0, 0), BAD_VALUE);
        due("sleeper(10, 1) when full", x.sleeper(10, 1), NO_SUCH);
        for (int i = 0; i < 5; i++) {
            due("room of " + i, x.sleeperOf(i, 0), 9 - i);
            due("ear of " + i, x.sleeperOf(i, 1), 9 - 2 * i);
            due("awake of " + i, x.sleeperOf(i, 2), 0);
            due("woke of " + i, x.sleeperOf(i, 3), 0);
        }
        due("count(5)", x.count(5), 0);
    }

    private static void promise7Put() {
        Counted x = withBoards("ab91");
        x.sleeper(1, 1);
        due("put(3, 9)", x.put(3, 9), 0);
        due("put(3, 1)", x.put(3, 1), 9);
        due("count(5)", x.count(5), 0);
        due("glide(3, 0)", x.glide(3, 0), 1);
        due("put(3, 5)", x.put(3, 5), 0);
        due("ghost(3, 1)", x.ghost(3, 1), 1);
        due("ghost(3, 4)", x.ghost(3, 4), 1);
        due("count(2)", x.count(2), 1);
        due("put(4, 0)", x.put(4, 0), NO_SUCH);
        due("put(-1, 0)", x.put(-1, 0), NO_SUCH);
        due("put(0, 10)", x.put(0, 10), NO_SUCH);
        due("put(0, -1)", x.put(0, -1), NO_SUCH);
        for (int wild : WILD) {
            due("put(wild, 0)", x.put(wild, 0), NO_SUCH);
            due("put(0, wild)", x.put(0, wild), NO_SUCH);
        }
        due("put into a watched room", x.put(0, 1), 0);
        due("put into the room where it is", x.put(0, 1), 1);
    }

    private static void promise8Glide() {
        Counted x = withBoards("ab55;bc45;ab11");
        x.sleeper(0, 5);
        x.sleeper(2, 4);
        x.sleeper(2, 5);
        x.sleeper(7, 1);
        due("glide(0, 1)", x.glide(0, 1), NOT_POSSIBLE);
        due("glide(0, 0)", x.glide(0, 0), 3);
        due("room", x.ghost(0, 0), 1);
        due("crossed", x.ghost(0, 1), 1);
        due("minutes", x.count(2), 5);
        due("awake", x.sleeperOf(0, 2), 5);
        due("woke", x.sleeperOf(0, 3), 1);
        due("glide(0, 2) to a watched room", x.glide(0, 2), NOT_POSSIBLE);
        due("glide(0, 1) to a watched room", x.glide(0, 1), NOT_POSSIBLE);
        due("glide(1, 2) from a watched room", x.glide(1, 2), NOT_POSSIBLE);
        x.pass(4);
        due("glide(0, 2) a minute too early", x.glide(0, 2), NOT_POSSIBLE);
        x.pass(1);
        due("glide(0, 0) that it has crossed", x.glide(0, 0), NOT_POSSIBLE);
        due("glide(1, 0) that another one has crossed", x.glide(1, 0), 3);
        due("glide(2, 0) when it is watched", x.glide(2, 0), NOT_POSSIBLE);
        due("woke anew", x.sleeperOf(0, 3), 2);
        due("glide(4, 0)", x.glide(4, 0), NO_SUCH);
        due("glide(-1, 0)", x.glide(-1, 0), NO_SUCH);
        due("glide(0, 3)", x.glide(0, 3), NO_SUCH);
        due("glide(0, -1)", x.glide(0, -1), NO_SUCH);
        for (int wild : WILD) {
            due("glide(wild, 0)", x.glide(wild, 0), NO_SUCH);
            due("glide(0, wild)", x.glide(0, wild), NO_SUCH);
        }
        glideWakesThoseWhoAreAwake();
        glideWithNoMinutesAwake();
        glideThroughBells();
    }

    private static void glideWakesThoseWhoAreAwake() {
        Counted x = withBoards("ab91;bc91;bc11");
        x.sleeper(4, 1);
        x.sleeper(3, 1);
        x.lay(2, 3, 1, 1);
        due("glide(0, 0)", x.glide(0, 0), 2);
        due("awake", x.sleeperOf(1, 2), 9);
        due("glide(0, 1)", x.glide(0, 1), 2);
        due("awake anew", x.sleeperOf(1, 2), 9);
        due("woke once", x.sleeperOf(1, 3), 1);
        due("glide(0, 2)", x.glide(0, 2), 0);
        due("awake on", x.sleeperOf(1, 2), 8);
    }

    private static void glideWithNoMinutesAwake() {
        Counted x = withBoards("ab91;bc91;cd91;da91");
        x.sleeper(1, 1);
        x.set(AWAKE, 0);
        due("glide(0, 0)", x.glide(0, 0), 1);
        due("awake", x.sleeperOf(0, 2), 0);
        due("woke", x.sleeperOf(0, 3), 1);
        due("glide(0, 1)", x.glide(0, 1), 1);
        due("woke again", x.sleeperOf(0, 3), 2);
        x.set(AWAKE, 60);
        due("glide(0, 2)", x.glide(0, 2), 1);
        due("woke the third time", x.sleeperOf(0, 3), 3);
        x.set(AWAKE, 0);
        due("glide(0, 3)", x.glide(0, 3), 1);
        due("asleep at once", x.sleeperOf(0, 2), 0);
        due("not out of sleep", x.sleeperOf(0, 3), 3);
    }

    private static void glideThroughBells() {
        Counted x = withBoards("ab19;ba19;ab12");
        x.set(BELL, 10);
        x.glide(0, 0);
        due("crossed", x.ghost(0, 1), 1);
        due("bells", x.count(7), 0);
        x.glide(0, 1);
        due("crossed behind the bell", x.ghost(0, 1), 2);
        due("bells then", x.count(7), 1);
        due("minutes", x.count(2), 18);
        due("glide(0, 2)", x.glide(0, 2), 0);
        due("crossed at the bell", x.ghost(0, 1), 4);
        due("bells at last", x.count(7), 2);
    }

    private static void promise9Go() {
        Counted x = withBoards("ab19;ac11;cb12;bd11");
        due("go(0, 3)", x.go(0, 3), 3);
        due("minutes", x.count(2), 4);
        due("crossed", x.ghost(0, 1), 14);
        due("crossings", x.ghost(0, 4), 3);
        due("go(0, 3) where it is", x.go(0, 3), 3);
        due("go(0, 0)", x.go(0, 0), NOT_POSSIBLE);
        due("go(0, 9)", x.go(0, 9), NOT_POSSIBLE);
        due("go(4, 0)", x.go(4, 0), NO_SUCH);
        due("go(-1, 0)", x.go(-1, 0), NO_SUCH);
        due("go(0, 10)", x.go(0, 10), NO_SUCH);
        due("go(0, -1)", x.go(0, -1), NO_SUCH);
        for (int wild : WILD) {
            due("go(wild, 0)", x.go(wild, 0), NO_SUCH);
            due("go(0, wild)", x.go(0, wild), NO_SUCH);
        }
        due("changes", x.count(10), 3);

        Counted y = withBoards("ab11;bc91;cd11");
        y.sleeper(3, 8);
        due("go(0, 3) that wakes somebody there", y.go(0, 3), 2);
        due("crossings on the way", y.ghost(0, 4), 2);
        due("go(1, 3) to a watched room", y.go(1, 3), NOT_POSSIBLE);
        due("go(0, 2) where it is", y.go(0, 2), 2);

        // Who wakes on the way sleeps again when the board at its room has its turn.
        Counted z = withBoards("ab91;bc19;cd11");
        z.sleeper(3, 7);
        due("go(0, 3) past a short wake", z.go(0, 3), 3);
        due("woke", z.sleeperOf(0, 3), 1);
        due("minutes then", z.count(2), 11);
    }

    private static void promise10Pass() {
        Counted x = withBoards("ab91;ac11");
        x.sleeper(1, 1);
        x.glide(0, 0);
        due("pass(0)", x.pass(0), BAD_VALUE);
        due("pass(201)", x.pass(201), BAD_VALUE);
        for (int wild : WILD) {
            if (wild < 1 || wild > 200) due("pass(wild)", x.pass(wild), BAD_VALUE);
        }
        due("pass(1)", x.pass(1), 0);
        due("awake", x.sleeperOf(0, 2), 8);
        due("pass(57)", x.pass(57), 0);
        due("asleep", x.sleeperOf(0, 2), 0);
        due("crossed", x.ghost(0, 1), 1);
        due("count(8)", x.count(8), 1);
        due("pass(1) to the bell", x.pass(1), 1);
        due("crossed behind the bell", x.ghost(0, 1), 0);
        due("count(8) at a bell", x.count(8), 60);
        due("pass(200)", x.pass(200), 3);
        due("count(7)", x.count(7), 4);
        due("count(2)", x.count(2), 260);
        due("ghost(0, 4)", x.ghost(0, 4), 1);

        Counted y = new Counted();
        y.lay(0, 1, 1, 9);
        for (int i = 0; i < 499; i++) y.pass(200);
        due("minutes", y.count(2), 99800);
        due("pass(200) too far", y.pass(200), TOO_MANY);
        due("pass(201) too far", y.pass(201), BAD_VALUE);
        due("pass(199)", y.pass(199), 3);
        due("pass(1) too far", y.pass(1), TOO_MANY);
        due("glide over the last minute", y.glide(0, 0), 0);
        due("minutes behind it", y.count(2), 100008);
        due("pass(1) behind it", y.pass(1), TOO_MANY);
    }

    private static void promise11Board() {
        Counted x = withBoards("ca29;ab13");
        int[] fresh = {0, 2, 2, 9, 0, 15, 0};
        for (int what = 0; what < fresh.length; what++) due("board(0, " + what + ")", x.board(0, what), fresh[what]);
        x.glide(1, 0);
        x.glide(3, 0);
        x.put(3, 0);
        due("crossed", x.board(0, 4), 10);
        due("free", x.board(0, 5), 5);
        due("creaked", x.board(0, 6), 2);
        due("creaked of another", x.board(1, 6), 0);
        x.pass(60);
        due("crossed behind a bell", x.board(0, 4), 0);
        due("creaked behind a bell", x.board(0, 6), 2);
        x.sleeper(1, 1);
        x.glide(1, 0);
        due("free where a far room is watched", x.board(0, 5), 13);
        due("free at a watched room", x.board(1, 5), 0);
        x.pass(1);
        due("free when nobody is awake", x.board(1, 5), 15);
        due("board(0, 7)", x.board(0, 7), BAD_VALUE);
        due("board(0, -1)", x.board(0, -1), BAD_VALUE);
        due("board(2, 7)", x.board(2, 7), NO_SUCH);
        due("board(-1, 0)", x.board(-1, 0), NO_SUCH);
        for (int wild : WILD) {
            due("board(wild, 0)", x.board(wild, 0), NO_SUCH);
            due("board(0, wild)", x.board(0, wild), BAD_VALUE);
        }
    }

    private static void promise12Ghost() {
        Counted x = withBoards("ab11;bc11;ad91;de11;fg11");
        due("free at its room", x.ghost(0, 2), 5);
        due("rooms", x.ghost(0, 3), 31);
        x.glide(0, 0);
        due("room", x.ghost(0, 0), 1);
        due("crossed", x.ghost(0, 1), 1);
        due("free at its room then", x.ghost(0, 2), 2);
        due("rooms then", x.ghost(0, 3), 6);
        due("crossings", x.ghost(0, 4), 1);
        due("room of another", x.ghost(1, 0), 0);
        x.sleeper(4, 8);
        x.glide(2, 2);
        due("rooms but for a watched one", x.ghost(1, 3), 15);
        due("free but for a watched room", x.ghost(2, 2), 0);
        x.put(1, 4);
        due("rooms from a watched one", x.ghost(1, 3), 16);
        due("rooms at the end of a long row",
            withBoards("ij11;hi11;gh11;fg11;ef11;de11;cd11;bc11;ab11").ghost(3, 3), 1023);
        due("rooms at the end of a long row the other way",
            withBoards("ab11;bc11;cd11;de11;ef11;fg11;gh11;hi11;ij11").ghost(3, 3), 1023);
        x.pass(60);
        due("crossed behind a bell", x.ghost(0, 1), 0);
        due("crossings behind a bell", x.ghost(0, 4), 1);
        due("ghost(0, 5)", x.ghost(0, 5), BAD_VALUE);
        due("ghost(0, -1)", x.ghost(0, -1), BAD_VALUE);
        due("ghost(4, 5)", x.ghost(4, 5), NO_SUCH);
        due("ghost(-1, 0)", x.ghost(-1, 0), NO_SUCH);
        for (int wild : WILD) {
            due("ghost(wild, 0)", x.ghost(wild, 0), NO_SUCH);
            due("ghost(0, wild)", x.ghost(0, wild), BAD_VALUE);
        }
    }

    private static void promise13SleeperOf() {
        Counted x = withBoards("ab31;bc41;cd31;ef91");
        x.sleeper(3, 2);
        due("room", x.sleeperOf(0, 0), 3);
        due("ear", x.sleeperOf(0, 1), 2);
        due("awake", x.sleeperOf(0, 2), 0);
        due("woke", x.sleeperOf(0, 3), 0);
        due("boards that would wake it", x.sleeperOf(0, 4), 6);
        x.go(0, 2);
        due("awake then", x.sleeperOf(0, 2), 9);
        due("woke then", x.sleeperOf(0, 3), 1);
        due("boards that would wake it then", x.sleeperOf(0, 4), 6);
        x.sleeper(0, 3);
        due("boards that would wake another", x.sleeperOf(1, 4), 3);
        due("sleeperOf(0, 5)", x.sleeperOf(0, 5), BAD_VALUE);
        due("sleeperOf(0, -1)", x.sleeperOf(0, -1), BAD_VALUE);
        due("sleeperOf(2, 5)", x.sleeperOf(2, 5), NO_SUCH);
        due("sleeperOf(-1, 0)", x.sleeperOf(-1, 0), NO_SUCH);
        for (int wild : WILD) {
            due("sleeperOf(wild, 0)", x.sleeperOf(wild, 0), NO_SUCH);
            due("sleeperOf(0, wild)", x.sleeperOf(0, wild), BAD_VALUE);
        }
    }

    private static void promise14Loudness() {
        Counted x = withBoards("ab51;bc51;cd51;de51;ea21;gh91");
        x.sleeper(0, 1);
        int[] loudness = {5, 4, 3, 4, 2, 0};
        for (int i = 0; i < loudness.length; i++) due("loudness of " + i, x.loudness(i, 0), loudness[i]);
        x.sleeper(3, 1);
        due("loudness of 0 to 1", x.loudness(0, 1), 3);
        due("loudness of 4 to 1", x.loudness(4, 1), 1);
        x.takeUp(4);
        x.takeUp(3);
        due("loudness the long way", x.loudness(2, 0), 3);
        x.takeUp(0);
        due("loudness of a board apart", x.loudness(0, 0), 0);
        Counted y = withBoards("ab91;bc91;cd91;de21");
        y.sleeper(0, 1);
        due("loudness never below 0", y.loudness(3, 0), 0);
        due("loudness(4, 0)", y.loudness(4, 0), NO_SUCH);
        due("loudness(0, 1)", y.loudness(0, 1), NO_SUCH);
        due("loudness(-1, 0)", y.loudness(-1, 0), NO_SUCH);
        due("loudness(0, -1)", y.loudness(0, -1), NO_SUCH);
        for (int wild : WILD) {
            due("loudness(wild, 0)", y.loudness(wild, 0), NO_SUCH);
            due("loudness(0, wild)", y.loudness(0, wild), NO_SUCH);
        }
    }

    private static void promise15Far() {
        Counted x = withBoards("ab11;bc11;cd11;de11;ef11;fg11;gh11;hi11;ij11");
        for (int room = 0; room < 10; room++) {
            due("far(0, " + room + ")", x.far(0, room), room);
            due("far(" + room + ", 9)", x.far(room, 9), 9 - room);
        }
        x.glide(0, 0);
        due("far over a board that is crossed", x.far(0, 1), 1);
        x.sleeper(2, 1);
        x.glide(0, 1);
        due("far through a watched room", x.far(0, 9), 9);
        x.lay(0, 8, 9, 9);
        due("far by a shorter way", x.far(9, 0), 2);
        x.takeUp(4);
        due("far round about", x.far(4, 5), 8);
        x.takeUp(4);
        due("far of rooms that are apart", x.far(4, 5), NONE);
        due("far(5, 5)", x.far(5, 5), 0);
        due("far(10, 0)", x.far(10, 0), NO_SUCH);
        due("far(0, 10)", x.far(0, 10), NO_SUCH);
        due("far(-1, -1)", x.far(-1, -1), NO_SUCH);
        for (int wild : WILD) {
            due("far(wild, 0)", x.far(wild, 0), NO_SUCH);
            due("far(0, wild)", x.far(0, wild), NO_SUCH);
        }
    }

    private static void promise16Count() {
        Counted x = withBoards("ab91;bc11");
        x.set(BELL, 50);
        x.set(AWAKE, 20);
        x.sleeper(1, 9);
        x.sleeper(9, 1);
        x.sleeper(1, 8);
        x.sleeper(0, 9);
        x.glide(0, 0);
        writeAll(x, "abc");
        int[] counts = {50, 20, 1, 2, 4, 13, 3, 0, 49, 3, 6};
        for (int what = 0; what < counts.length; what++) due("count(" + what + ")", x.count(what), counts[what]);
        x.pass(18);
        due("count(5) a minute before", x.count(5), 13);
        due("count(6) a minute before", x.count(6), 3);
        x.pass(1);
        due("count(5)", x.count(5), 0);
        due("count(6)", x.count(6), 0);
        x.pass(130);
        due("count(7)", x.count(7), 3);
        due("count(8)", x.count(8), 50);
        due("count(11)", x.count(11), BAD_VALUE);
        due("count(-1)", x.count(-1), BAD_VALUE);
        for (int wild : WILD) due("count(wild)", x.count(wild), BAD_VALUE);
    }

    private static void promise17Soonest() {
        Counted x = withBoards("ab19;ac12;cb12;bd13;ad17;ab14;ac12;ae17");
        due("minutes", x.soonest(0, 3, 0), 7);
        due("boards, how many", x.soonest(0, 3, 1), 1);
        due("the board", x.soonest(0, 3, 2), 4);
        due("behind the last board", x.soonest(0, 3, 3), NONE);
        due("far behind the last board", x.soonest(0, 3, Integer.MAX_VALUE), NONE);
        due("fewest boards", x.soonest(0, 1, 1), 1);
        due("of these the lowest", x.soonest(0, 1, 2), 5);
        due("lowest of two boards between the same rooms", x.soonest(0, 2, 2), 1);
        x.takeUp(5);
        x.takeUp(4);
        due("two boards behind one another", x.soonest(0, 3, 1), 3);
        due("the first of three", x.soonest(0, 3, 2), 1);
        due("the second of three", x.soonest(0, 3, 3), 2);
        due("the third of three", x.soonest(0, 3, 4), 3);
        due("behind the third", x.soonest(0, 3, 5), NONE);
        x.glide(0, 1);
        x.put(0, 0);
        due("not over what it has crossed", x.soonest(0, 2, 2), 4);
        due("what another one has crossed", x.soonest(1, 2, 2), 1);
        due("where it is", x.soonest(0, 0, 0), 0);
        due("boards where it is", x.soonest(0, 0, 1), 0);
        due("a board where it is", x.soonest(0, 0, 2), NONE);
        due("without a way", x.soonest(0, 9, 0), NONE);
        soonestOfTheSame();
        soonestThroughWatchedRooms();
        due("soonest(4, 0, -1)", x.soonest(4, 0, -1), NO_SUCH);
        due("soonest(-1, 0, 0)", x.soonest(-1, 0, 0), NO_SUCH);
        due("soonest(0, 10, 0)", x.soonest(0, 10, 0), NO_SUCH);
        due("soonest(0, -1, 0)", x.soonest(0, -1, 0), NO_SUCH);
        due("soonest(0, 0, -1)", x.soonest(0, 0, -1), BAD_VALUE);
        due("soonest(0, 9, -1)", x.soonest(0, 9, -1), BAD_VALUE);
        for (int wild : WILD) {
            due("soonest(wild, 0, 0)", x.soonest(wild, 0, 0), NO_SUCH);
            due("soonest(0, wild, 0)", x.soonest(0, wild, 0), NO_SUCH);
            due("soonest(0, 0, wild)", x.soonest(0, 0, wild), wild < 0 ? BAD_VALUE : NONE);
        }
    }

    private static void soonestOfTheSame() {
        Counted x = withBoards("cd11;bd11;ab11;ac11");
        due("the lowest first board", x.soonest(0, 3, 2), 2);
        due("its second board", x.soonest(0, 3, 3), 1);
        Counted y = withBoards("bd12;ab11;bc11;cd11;bd12");
        due("the fewest boards", y.soonest(0, 3, 1), 2);
        due("the lowest second board", y.soonest(0, 3, 3), 0);
        Counted z = withBoards("ab19;bc19;cd19;de19;ef19;fg19;gh19;hi19;ij19");
        due("the longest way", z.soonest(0, 9, 0), 81);
        due("its boards, how many", z.soonest(0, 9, 1), 9);
        due("its last board", z.soonest(0, 9, 10), 8);
        due("behind it", z.soonest(0, 9, 11), NONE);
    }

    private static void soonestThroughWatchedRooms() {
        Counted x = withBoards("ab11;bc11;ad12;dc12;be91");
        x.sleeper(1, 9);
        x.put(3, 1);
        x.glide(3, 4);
        due("round a watched room", x.soonest(0, 2, 0), 4);
        due("round a watched room, the first board", x.soonest(0, 2, 2), 2);
        due("to a watched room", x.soonest(0, 1, 0), NONE);
        x.put(0, 1);
        due("out of a watched room", x.soonest(0, 0, 0), NONE);
        due("in a watched room", x.soonest(0, 1, 0), 0);
    }

    private static void promise18Quietest() {
        Counted x = withBoards("ab91;ac49;cb59;bd11;ef91");
        due("quietest(0, 1)", x.quietest(0, 1), 5);
        due("quietest(0, 3)", x.quietest(0, 3), 5);
        due("quietest(0, 2)", x.quietest(0, 2), 4);
        due("where it is", x.quietest(0, 0), 0);
        due("without a way", x.quietest(0, 4), NONE);
        x.glide(0, 1);
        x.put(0, 0);
        due("not over what it has crossed", x.quietest(0, 1), 9);
        due("what another one has crossed", x.quietest(1, 1), 5);
        x.sleeper(1, 5);
        x.put(2, 2);
        x.glide(2, 2);
        due("to a watched room", x.quietest(1, 1), NONE);
        due("in a watched room", x.quietest(2, 1), 0);
        due("quietest(4, 0)", x.quietest(4, 0), NO_SUCH);
        due("quietest(-1, 0)", x.quietest(-1, 0), NO_SUCH);
        due("quietest(0, 10)", x.quietest(0, 10), NO_SUCH);
        due("quietest(0, -1)", x.quietest(0, -1), NO_SUCH);
        for (int wild : WILD) {
            due("quietest(wild, 0)", x.quietest(wild, 0), NO_SUCH);
            due("quietest(0, wild)", x.quietest(0, wild), NO_SUCH);
        }
    }

    private static void promise19Reason() {
        due("no board at all", new Counted().reason(0), 1);
        due("none at its room", withBoards("bc11").reason(0), 2);
        due("some that cannot be come to", withBoards("ab11;cd11").reason(0), 3);
        due("four odd rooms", withBoards("ab11;ac11;ad11").reason(0), 4);
        due("two odd rooms, not its own", withBoards("bc11;ba11;ab11").reason(0), 5);
        due("two odd rooms, its own", withBoards("ab11;bc11").reason(0), 0);
        due("a round", withBoards("ab11;bc11;ca11").reason(0), 0);
        due("none at its room comes ahead", withBoards("bc11;de11;ef11;eg11").reason(0), 2);
        due("not come to comes ahead", withBoards("ab11;ac11;ad11;ef11").reason(0), 3);
        due("four comes ahead of two", withBoards("ba11;ab11;bc11;bd11;be11").reason(0), 4);

        Counted x = withBoards("ab91;bc11");
        x.sleeper(1, 9);
        due("before", x.reason(0), 0);
        x.glide(0, 0);
        due("a watched board is left", x.reason(0), 0);
        due("another one at a watched board", x.reason(1), 0);
        x.pass(10);
        x.glide(0, 1);
        due("all crossed", x.reason(0), 1);
        x.pass(60);
        due("behind a bell", x.reason(0), 0);
        due("reason(4)", x.reason(4), NO_SUCH);
        due("reason(-1)", x.reason(-1), NO_SUCH);
        for (int wild : WILD) due("reason(wild)", x.reason(wild), NO_SUCH);
    }

    private static void promise20Trail() {
        Counted x = withBoards("ad11;ab11;bc11;ca11");
        int[] row = {1, 2, 3, 0, NONE, NONE};
        for (int i = 0; i < row.length; i++) due("trail(0, " + i + ")", x.trail(0, i), row[i]);
        due("far behind it", x.trail(0, Integer.MAX_VALUE), NONE);
        due("trail(0, -1)", x.trail(0, -1), NO_SUCH);
        due("trail(0, MIN)", x.trail(0, Integer.MIN_VALUE), NO_SUCH);
        due("trail(4, 0)", x.trail(4, 0), NO_SUCH);
        due("trail(-1, 0)", x.trail(-1, 0), NO_SUCH);
        for (int wild : WILD) due("trail(wild, 0)", x.trail(wild, 0), NO_SUCH);
        x.put(1, 1);
        due("trail(1, 0)", x.trail(1, 0), NOT_POSSIBLE);
        due("trail(1, 9)", x.trail(1, 9), NOT_POSSIBLE);
        due("trail(1, -1)", x.trail(1, -1), NO_SUCH);
        x.glide(0, 1);
        int[] rest = {2, 3, 0, NONE};
        for (int i = 0; i < rest.length; i++) due("then trail(0, " + i + ")", x.trail(0, i), rest[i]);
        x.go(0, 3);
        due("trail of nothing", x.trail(0, 0), NOT_POSSIBLE);

        // Twice between the same rooms, and a loop that has to come before the way on.
        Counted y = withBoards("bc11;cb11;ab11;ba11;ae11");
        int[] loops = {2, 0, 1, 3, 4, NONE};
        for (int i = 0; i < loops.length; i++) due("of loops trail(0, " + i + ")", y.trail(0, i), loops[i]);
        Counted z = withBoards("ab11;ab11;ab11;ab11;ab11;ab11;ab11;ab11;ab11;ab11");
        writeAll(z, "ab11;ab11;ab11;ab11;ab11;ab11;ab11;ab11;ab11;ab11");
        z.read();
        due("the 20th of twenty", z.trail(0, 19), 19);
        due("behind twenty", z.trail(0, 20), NONE);
    }

    private static void promise21WorstGap() {
        Counted x = withBoards("ab11;bc11;cd11;de11");
        due("the middle", x.worstGap(0), 1);
        due("its pairs", x.worstGap(1), 6);
        x.lay(1, 3, 1, 1);
        due("not in a round", x.worstGap(0), 0);
        due("the pairs of an end", x.worstGap(1), 4);
        x.takeUp(0);
        due("the other end", x.worstGap(0), 2);
        x.lay(5, 6, 1, 1);
        x.lay(6, 7, 1, 1);
        x.lay(7, 8, 1, 1);
        due("another part", x.worstGap(0), 5);
        due("pairs of another part", x.worstGap(1), 4);
        Counted y = withBoards("ab11;ab11;bc91");
        y.sleeper(1, 1);
        y.glide(0, 0);
        due("watched and crossed boards count", y.worstGap(0), 2);
        due("their pairs", y.worstGap(1), 2);
        due("without any", withBoards("ab11;ab11").worstGap(0), NONE);
        due("pairs without any", withBoards("ab11;bc11;ca11").worstGap(1), NONE);
        due("without boards", new Counted().worstGap(1), NONE);
        due("worstGap(2)", y.worstGap(2), BAD_VALUE);
        due("worstGap(-1)", y.worstGap(-1), BAD_VALUE);
        due("worstGap(2) without boards", new Counted().worstGap(2), BAD_VALUE);
        for (int wild : WILD) due("worstGap(wild)", y.worstGap(wild), BAD_VALUE);
    }

    private static void promise22Write() {
        Counted x = new Counted();
        due("write of nothing", x.write(0L), BAD_VALUE);
        due("write of code 32", x.write(32L), BAD_VALUE);
        due("write of code 33", x.write(33L), 1);
        due("write of code 126", x.write(126L), 2);
        due("write of code 127", x.write(127L), BAD_VALUE);
        due("write of code 255", x.write(255L), BAD_VALUE);
        due("write of -1", x.write(-1L), BAD_VALUE);
        due("write of MIN", x.write(Long.MIN_VALUE), BAD_VALUE);
        due("write with a gap", x.write('a' << 16 | 'b'), BAD_VALUE);
        due("write with a gap at the end", x.write('a' << 8), BAD_VALUE);
        due("write with a high bit", x.write(1L << 63 | 'a'), BAD_VALUE);
        due("write with a high bit behind 7", x.write(1L << 56 | packed("abcdefg")), BAD_VALUE);
        due("write of a bad one among good ones", x.write('a' << 16 | 31 << 8 | 'b'), BAD_VALUE);
        due("write of a bad first one", x.write(200L << 56 | packed("abcdefg")), BAD_VALUE);
        due("count(10)", x.count(10), 0);
        due("wipe()", x.wipe(), 2);
        due("write of 8", x.write(packed("ab34;ef5")), 8);
        due("write of 1", x.write('6'), 9);
        due("read()", x.read(), 2);
        due("creak of the first", x.board(0, 2), 3);
        due("minutes of the second", x.board(1, 3), 6);
        for (int i = 1; i <= 7; i++) due("write the time " + i, x.write(packed("abcdefgh")), 8 * i);
        due("write of 5 to 56", x.write(packed("abcde")), TOO_MANY);
        due("write of a bad 5 to 56", x.write(packed("abcd ")), BAD_VALUE);
        due("write of 4 to 56", x.write(packed("abcd")), 60);
        due("write of 1 to 60", x.write('a'), TOO_MANY);
        due("count(9)", x.count(9), 60);
    }

    private static void promise23Wipe() {
        Counted x = new Counted();
        due("wipe() of nothing", x.wipe(), 0);
        writeAll(x, "xyz");
        due("wipe()", x.wipe(), 3);
        due("count(9)", x.count(9), 0);
        due("fault()", x.fault(), 0);
        due("count(10)", x.count(10), 0);
        writeAll(x, "ab12");
        due("fault() of new text", x.fault(), NONE);
    }

    private static void faultOf(String text, int want) {
        Counted x = new Counted();
        writeAll(x, text);
        due("fault() of " + text, x.fault(), want);
        due("count(9)", x.count(9), text.length());
        due("read() of " + text, x.read(), want == NONE ? (text.length() + 1) / 5 : BAD_TEXT);
    }

    private static void promise24Fault() {
        faultOf("", 0);
        faultOf("a", 1);
        faultOf("aj", 2);
        faultOf("aj1", 3);
        faultOf("aj19", NONE);
        faultOf("aj19;", 5);
        faultOf("aj19;b", 6);
        faultOf("ja91;bc55", NONE);
        faultOf("k", 0);
        faultOf("A", 0);
        faultOf("`", 0);
        faultOf("1", 0);
        faultOf(";", 0);
        faultOf("aa12", 1);
        faultOf("ak12", 1);
        faultOf("a112", 1);
        faultOf("ab02", 2);
        faultOf("ab:2", 2);
        faultOf("abc2", 2);
        faultOf("ab10", 3);
        faultOf("ab1;", 3);
        faultOf("ab12,", 4);
        faultOf("ab12cd34", 4);
        faultOf("ab12;;", 5);
        faultOf("ab12;cc11", 6);
        faultOf("ab12;bb!", 6);
        faultOf("ab11;ab11;ab11;ab11;ab11;ab11;ab11;ab11;ab11;ab11;ab11;ab11", NONE);
        faultOf("ab11;ab11;ab11;ab11;ab11;ab11;ab11;ab11;ab11;ab11;ab11;ab11;", 60);
    }

    private static void changeOnce(Counted x, int step) {
        switch (step) {
            case 0: x.lay(0, 1, 9, 3); break;
            case 1: x.sleeper(1, 4); break;
            case 2: x.glide(0, 0); break;
            case 3: x.pass(100); break;
            case 4: x.set(BELL, 30); break;
            default: x.put(2, 7); break;
        }
    }

    private static void promise25Undo() {
        Counted x = new Counted();
        // The states are asked of a twin, for one object would be called too often.
        Counted twin = new Counted();
        due("undo() of nothing", x.undo(), NOT_POSSIBLE);
        String[] states = new String[6];
        for (int step = 0; step < 6; step++) {
            states[step] = stateOf(twin);
            changeOnce(twin, step);
            changeOnce(x, step);
        }
        due("count(10)", x.count(10), 6);
        for (int i = 5; i >= 0; i--) {
            due("undo()", x.undo(), i);
            same("undo() to " + i, stateOf(x), states[i]);
        }
        due("undo() of no more", x.undo(), NOT_POSSIBLE);
        undoKeepsSix();
        undoLeavesErrorsAndPadAlone();
        undoOfEachChange();
    }

    private static void undoKeepsSix() {
        Counted x = new Counted();
        for (int i = 1; i <= 9; i++) x.pass(i);
        due("count(10)", x.count(10), 6);
        int[] minutes = {36, 28, 21, 15, 10, 6};
        for (int i = 0; i < 6; i++) {
            due("undo()", x.undo(), 5 - i);
            due("count(2)", x.count(2), minutes[i]);
        }
        due("undo() of the oldest", x.undo(), NOT_POSSIBLE);
        x.pass(7);
        x.undo();
        due("count(2) at last", x.count(2), 6);
    }

    private static void undoLeavesErrorsAndPadAlone() {
        Counted x = new Counted();
        x.set(BELL, 9);
        x.lay(0, 0, 1, 1);
        x.read();
        x.takeUp(0);
        x.sleeper(0, 0);
        x.put(0, 10);
        x.glide(0, 0);
        x.go(0, 1);
        x.pass(0);
        x.restore(0);
        x.save(0);
        x.save(2);
        writeAll(x, "ab11");
        due("count(10) behind errors", x.count(10), 0);
        x.set(BELL, 60);
        due("count(10) behind the same value", x.count(10), 1);
        x.go(0, 0);
        due("count(10) behind no way", x.count(10), 2);
        x.put(0, 0);
        due("count(10) behind the same room", x.count(10), 3);
        due("undo()", x.undo(), 2);
        due("the pad stays", x.count(9), 4);
        due("the slots stay", x.restore(0), 0);
        due("restore(0) is a change", x.count(10), 3);
    }

    private static void undoOfEachChange() {
        Counted x = withBoards("ab91;bc91;cd91");
        x.sleeper(3, 3);
        x.glide(0, 0);
        x.glide(1, 0);
        x.save(1);
        x.pass(70);
        String before = stateOf(x);
        x.takeUp(0);
        x.undo();
        same("takeUp", stateOf(x), before);
        x.go(0, 3);
        x.undo();
        same("go", stateOf(x), before);
        x.restore(1);
        x.undo();
        same("restore", stateOf(x), before);
        writeAll(x, "ej11");
        x.read();
        x.undo();
        same("read", stateOf(x), before);
        due("the pad stays empty", x.count(9), 0);
        x.set(AWAKE, 33);
        x.undo();
        same("set", stateOf(x), before);
    }

    private static void promise26Save() {
        Counted x = withBoards("ab91;bc91");
        due("save(0)", x.save(0), 2);
        due("count(10)", x.count(10), 1);
        due("save(2)", x.save(2), BAD_VALUE);
        due("save(-1)", x.save(-1), BAD_VALUE);
        for (int wild : WILD) due("save(wild)", x.save(wild), BAD_VALUE);
        due("restore(1) of nothing", x.restore(1), NOT_POSSIBLE);
        x.lay(4, 5, 1, 1);
        due("save(1)", x.save(1), 3);
        due("restore(0)", x.restore(0), 2);
        due("restore(1)", x.restore(1), 3);
        x.takeUp(0);
        x.takeUp(0);
        due("save(0) over it", x.save(0), 1);
        due("restore(1) is still there", x.restore(1), 3);
        due("restore(0) is the last one", x.restore(0), 1);
        due("board(0, 0)", x.board(0, 0), 4);
    }

    private static void promise27Restore() {
        Counted x = withBoards("ab91;bc91");
        x.sleeper(2, 5);
        x.set(BELL, 30);
        x.set(AWAKE, 20);
        x.glide(0, 0);
        x.put(3, 8);
        due("restore(0) of nothing", x.restore(0), NOT_POSSIBLE);
        due("restore(2)", x.restore(2), BAD_VALUE);
        due("restore(-1)", x.restore(-1), BAD_VALUE);
        for (int wild : WILD) due("restore(wild)", x.restore(wild), BAD_VALUE);
        String saved = stateOf(x);
        x.save(0);
        due("count(10)", x.count(10), 6);
        x.pass(200);
        x.takeUp(0);
        x.sleeper(0, 1);
        x.undo();
        x.undo();
        writeAll(x, "abc");
        String changed = stateOf(x);
        due("restore(0)", x.restore(0), 2);
        same("restore(0)", stateOf(x), saved);
        due("the pad stays", x.count(9), 3);
        due("the history stays and gets one more", x.count(10), 5);
        x.glide(3, 0);
        x.lay(0, 5, 5, 5);
        due("restore(0) again", x.restore(0), 2);
        same("restore(0) again", stateOf(x), saved);
        x.undo();
        x.undo();
        x.undo();
        same("undo() of restore(0)", stateOf(x), changed);
        due("restore(1) of nothing", x.restore(1), NOT_POSSIBLE);
        restoreOtherSleepers();
    }

    private static void restoreOtherSleepers() {
        Counted x = withBoards("ab91");
        x.sleeper(1, 5);
        x.save(0);
        x.undo();
        x.sleeper(0, 7);
        String other = stateOf(x);
        x.restore(0);
        due("room of the sleeper", x.sleeperOf(0, 0), 1);
        due("ear of the sleeper", x.sleeperOf(0, 1), 5);
        x.undo();
        same("undo() of restore(0)", stateOf(x), other);
    }

    private static void changesTextsAndStates() {
        promise = "promise 22";
        promise22Write();
        promise = "promise 23";
        promise23Wipe();
        promise = "promise 24";
        promise24Fault();
        promise = "promise 25";
        promise25Undo();
        promise = "promise 26";
        promise26Save();
        promise = "promise 27";
        promise27Restore();
    }

    private static void changes() {
        promise = "promise 1";
        promise1NewObject();
        promise = "promise 2";
        promise2Set();
        promise = "promise 3";
        promise3Lay();
        promise = "promise 4";
        promise4Read();
        promise = "promise 5";
        promise5TakeUp();
        promise = "promise 6";
        promise6Sleeper();
        promise = "promise 7";
        promise7Put();
        promise = "promise 8";
        promise8Glide();
        promise = "promise 9";
        promise9Go();
        promise = "promise 10";
        promise10Pass();
    }

    private static void questions() {
        promise = "promise 11";
        promise11Board();
        promise = "promise 12";
        promise12Ghost();
        promise = "promise 13";
        promise13SleeperOf();
        promise = "promise 14";
        promise14Loudness();
        promise = "promise 15";
        promise15Far();
        promise = "promise 16";
        promise16Count();
        promise = "promise 17";
        promise17Soonest();
        promise = "promise 18";
        promise18Quietest();
        promise = "promise 19";
        promise19Reason();
        promise = "promise 20";
        promise20Trail();
        promise = "promise 21";
        promise21WorstGap();
    }

    public static void main(String[] args) {
        promise = "constants";
        constants();
        changes();
        questions();
        changesTextsAndStates();
        System.out.println(wrong == 0 ? "every promise holds" : wrong + " answers are not as due");
        if (wrong != 0) System.exit(1);
    }
}
