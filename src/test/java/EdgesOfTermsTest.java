import java.io.IOException;

/** The boundary cases that the conventions and terms of ../shared/DOC.md name, a test for each. */
public final class EdgesOfTermsTest extends Edges {
    // ---- conventions

    @Edge(promise = 0, says = "it names its errors in the order in which they are checked, and the first one that applies is returned")
    static void theFirstErrorThatApplies() {
        Counted x = many(20);
        for (int i = 0; i < 5; i++) x.sleeper(i, 9);
        is("lay(10, 10, 0, 0) when full", x.lay(10, 10, 0, 0), NO_SUCH);
        is("lay(0, 0, 1, 1) when full", x.lay(0, 0, 1, 1), BAD_VALUE);
        is("lay(0, 1, 1, 10) when full", x.lay(0, 1, 1, 10), BAD_VALUE);
        is("lay(0, 1, 1, 1) when full", x.lay(0, 1, 1, 1), TOO_MANY);
        is("sleeper(10, 0) when full", x.sleeper(10, 0), NO_SUCH);
        is("sleeper(9, 0) when full", x.sleeper(9, 0), BAD_VALUE);
        is("sleeper(9, 1) when full", x.sleeper(9, 1), TOO_MANY);
        is("read() of a fault when full", written(x, "ab1").read(), BAD_TEXT);
        x.write('1');
        is("read() of a board when full", x.read(), TOO_MANY);
        is("glide(4, 20)", x.glide(4, 20), NO_SUCH);
        is("board(20, 7)", x.board(20, 7), NO_SUCH);
        is("ghost(4, 5)", x.ghost(4, 5), NO_SUCH);
        is("sleeperOf(5, 5)", x.sleeperOf(5, 5), NO_SUCH);
        is("soonest(4, 0, -1)", x.soonest(4, 0, -1), NO_SUCH);
        is("soonest(0, 10, -1)", x.soonest(0, 10, -1), NO_SUCH);
        for (int i = 0; i < 7; i++) x.write(packed("abcdefgh"));
        is("write of 8 to 60, a bad one among them", x.write(packed("abcdefg ")), BAD_VALUE);
        is("write of 8 to 60", x.write(packed("abcdefgh")), TOO_MANY);
    }

    @Edge(promise = 0, says = "NONE (-6) is not an error; it is returned only if no error applies")
    static void noneOnlyWithoutAnError() {
        Counted x = boards("ab11;ab11");
        is("soonest(0, 9, 0) without a way", x.soonest(0, 9, 0), NONE);
        is("soonest(0, 9, -1) without a way", x.soonest(0, 9, -1), BAD_VALUE);
        is("soonest(4, 9, 0) without a way", x.soonest(4, 9, 0), NO_SUCH);
        is("quietest(0, 9) without a way", x.quietest(0, 9), NONE);
        is("quietest(4, 9) without a way", x.quietest(4, 9), NO_SUCH);
        is("far(0, 9) without a way", x.far(0, 9), NONE);
        is("far(0, 10) without a way", x.far(0, 10), NO_SUCH);
        is("trail(0, 2) behind its end", x.trail(0, 2), NONE);
        is("trail(4, 2) behind its end", x.trail(4, 2), NO_SUCH);
        x.put(0, 2);
        is("trail(0, 2) with a reason", x.trail(0, 2), NOT_POSSIBLE);
        is("trail(0, -1) with a reason", x.trail(0, -1), NO_SUCH);
        is("worstGap(0) without any", x.worstGap(0), NONE);
        is("worstGap(2) without any", x.worstGap(2), BAD_VALUE);
    }

    @Edge(promise = 0, says = "Everything is numbered from 0")
    static void numbersFromZero() {
        Counted x = new Counted();
        is("the first board", x.lay(9, 8, 1, 1), 0);
        is("the second board", x.lay(9, 8, 1, 1), 1);
        is("the first sleeper", x.sleeper(9, 1), 0);
        is("the second sleeper", x.sleeper(9, 1), 1);
        is("the first ghost", x.put(0, 9), 0);
        is("the first step of its trail", x.trail(0, 0), 0);
        is("the first slot", x.save(0), 2);
    }

    @Edge(promise = 0, says = "Sets are bit masks")
    static void setsAreBitMasks() {
        Counted x = many(20);
        x.sleeper(1, 9);
        for (int i = 0; i < 4; i++) x.sleeper(0, 1);
        is("board(19, 5), four ghosts", x.board(19, 5), 0b1111);
        is("ghost(0, 2), twenty boards", x.ghost(0, 2), 0xfffff);
        is("glide(0, 19) wakes the last four", x.glide(0, 19), 0b11110);
        is("board(19, 4), the first ghost", x.board(19, 4), 1);
        is("ghost(0, 1), the last board", x.ghost(0, 1), 0x80000);
        is("count(5)", x.count(5), 0b11110);
        is("count(6), the room a", x.count(6), 1);
        is("sleeperOf(0, 4), the boards with creak 9", x.sleeperOf(0, 4), 1 << 8 | 1 << 17);
    }

    // ---- settings

    @Edge(promise = 0, says = "BELL (10 to 200; 60): minutes")
    static void rangeOfBell() {
        Counted x = new Counted();
        is("count(0) at first", x.count(0), 60);
        is("set(BELL, 9)", x.set(BELL, 9), BAD_VALUE);
        is("set(BELL, 201)", x.set(BELL, 201), BAD_VALUE);
        is("count(0) then", x.count(0), 60);
        is("set(BELL, 10)", x.set(BELL, 10), 60);
        is("pass(10) at 10", x.pass(10), 1);
        is("set(BELL, 200)", x.set(BELL, 200), 10);
        is("pass(189) at 200", x.pass(189), 0);
        is("pass(1) at 200", x.pass(1), 1);
        is("count(0) at last", x.count(0), 200);
    }

    @Edge(promise = 0, says = "AWAKE (0 to 60; 10): minutes")
    static void rangeOfAwake() {
        Counted x = boards("ab11;ab11");
        x.sleeper(0, 1);
        is("count(1) at first", x.count(1), 10);
        is("set(AWAKE, -1)", x.set(AWAKE, -1), BAD_VALUE);
        is("set(AWAKE, 61)", x.set(AWAKE, 61), BAD_VALUE);
        is("count(1) then", x.count(1), 10);
        is("set(AWAKE, 0)", x.set(AWAKE, 0), 10);
        x.glide(0, 0);
        is("awake with 0", x.sleeperOf(0, 2), 0);
        is("set(AWAKE, 60)", x.set(AWAKE, 60), 0);
        x.glide(0, 1);
        is("awake with 60, a minute later", x.sleeperOf(0, 2), 59);
    }

    // ---- rooms and boards

    @Edge(promise = 0, says = "There are 10 rooms, 0 to 9, called a to j")
    static void tenRooms() {
        Counted x = new Counted();
        is("lay(0, 9, 1, 1)", x.lay(0, 9, 1, 1), 0);
        is("lay(0, 10, 1, 1)", x.lay(0, 10, 1, 1), NO_SUCH);
        is("lay(-1, 9, 1, 1)", x.lay(-1, 9, 1, 1), NO_SUCH);
        is("sleeper(9, 1)", x.sleeper(9, 1), 0);
        is("put(0, 9)", x.put(0, 9), 0);
        is("far(9, 0)", x.far(9, 0), 1);
        written(x, "aj99").read();
        is("the lower room of aj", x.board(1, 0), 0);
        is("the greater room of aj", x.board(1, 1), 9);
        is("fault() of ak", written(x, "ak99").fault(), 1);
    }

    @Edge(promise = 0, says = "There are up to 20 boards, numbered in the order in which they were laid")
    static void twentyBoards() {
        Counted x = many(19);
        is("lay of the 20th", x.lay(3, 7, 5, 6), 19);
        is("lay of one more", x.lay(3, 7, 5, 6), TOO_MANY);
        is("count(3)", x.count(3), 20);
        for (int i = 0; i < 19; i++) {
            is("creak of " + i, x.board(i, 2), 1 + i % 9);
            is("minutes of " + i, x.board(i, 3), 1 + i % 8);
        }
        is("lower room of the last", x.board(19, 0), 3);
        is("greater room of the last", x.board(19, 1), 7);
        is("creak of the last", x.board(19, 2), 5);
        is("minutes of the last", x.board(19, 3), 6);
    }

    @Edge(promise = 0, says = "when one is taken up, those behind it move up")
    static void thoseBehindItMoveUp() {
        for (int taken : new int[] {0, 9, 19}) {
            Counted x = many(20);
            is("takeUp(" + taken + ")", x.takeUp(taken), 19);
            for (int i = 0; i < 19; i++) {
                int before = i < taken ? i : i + 1;
                is("creak of " + i + " behind takeUp(" + taken + ")", x.board(i, 2), 1 + before % 9);
                is("minutes of " + i + " behind takeUp(" + taken + ")", x.board(i, 3), 1 + before % 8);
            }
            is("board(19, 0) behind takeUp(" + taken + ")", x.board(19, 0), NO_SUCH);
        }
    }

    @Edge(promise = 0, says = "A board is between two rooms that are not the same")
    static void roomsThatAreTheSame() {
        Counted x = new Counted();
        for (int room = 0; room < 10; room++) is("lay of a board to itself", x.lay(room, room, 1, 1), BAD_VALUE);
        is("fault() of aa", written(x, "aa11").fault(), 1);
        is("count(3)", x.count(3), 0);
    }

    @Edge(promise = 0, says = "there can be several between the same two")
    static void severalBetweenTheSameTwo() {
        Counted x = many(20);
        for (int i = 0; i < 20; i++) {
            is("glide(0, " + i + ")", x.glide(0, i), 0);
            is("room then", x.ghost(0, 0), 1 - i % 2);
        }
        is("ghost(0, 4)", x.ghost(0, 4), 20);
        is("far(0, 1)", x.far(0, 1), 1);
    }

    @Edge(promise = 0, says = "it has a creak, 1 to 9, and minutes, 1 to 9")
    static void creakAndMinutes() {
        Counted x = new Counted();
        for (int value : new int[] {1, 9}) {
            x.lay(0, 1, value, 10 - value);
            is("creak", x.board(x.count(3) - 1, 2), value);
            is("minutes", x.board(x.count(3) - 1, 3), 10 - value);
        }
        for (int value : new int[] {0, 10}) {
            is("lay with the creak " + value, x.lay(0, 1, value, 5), BAD_VALUE);
            is("lay with the minutes " + value, x.lay(0, 1, 5, value), BAD_VALUE);
        }
        x.glide(0, 0);
        is("minutes behind a glide over 9", x.count(2), 9);
        x.glide(0, 1);
        is("minutes behind a glide over 1", x.count(2), 10);
    }

    @Edge(promise = 0, says = "as the fewest boards on a way between them tell (0 for the same room)")
    static void fewestBoards() {
        Counted x = boards("ab11;bc11;cd11;de11;ea99");
        is("far(0, 0)", x.far(0, 0), 0);
        is("far(0, 1)", x.far(0, 1), 1);
        is("far(0, 2), the shorter way round", x.far(0, 2), 2);
        is("far(0, 3), the other way round", x.far(0, 3), 2);
        is("far(0, 4), by fewest boards, not minutes", x.far(0, 4), 1);
        is("far(9, 9) without any board", x.far(9, 9), 0);
    }

    @Edge(promise = 0, says = "they can be apart, without any way")
    static void roomsApart() {
        Counted x = boards("ab11;cd11");
        is("far(1, 2)", x.far(1, 2), NONE);
        is("far(0, 9)", x.far(0, 9), NONE);
        x.lay(1, 2, 1, 1);
        is("far(0, 3) with a board between", x.far(0, 3), 3);
        x.takeUp(2);
        is("far(0, 3) without it", x.far(0, 3), NONE);
    }

    // ---- ghosts

    @Edge(promise = 0, says = "There are 4 ghosts, 0 to 3, each in a room (at first all in the room 0)")
    static void fourGhosts() {
        Counted x = boards("ab11");
        for (int ghost = 0; ghost < 4; ghost++) is("room of " + ghost, x.ghost(ghost, 0), 0);
        is("ghost(4, 0)", x.ghost(4, 0), NO_SUCH);
        is("ghost(-1, 0)", x.ghost(-1, 0), NO_SUCH);
        is("glide(3, 0)", x.glide(3, 0), 0);
        is("room of 3", x.ghost(3, 0), 1);
        for (int ghost = 0; ghost < 3; ghost++) is("room of " + ghost + " then", x.ghost(ghost, 0), 0);
        is("glide(4, 0)", x.glide(4, 0), NO_SUCH);
    }

    @Edge(promise = 0, says = "with a set of boards that it has crossed since the last bell (none at first)")
    static void noneCrossedAtFirst() {
        Counted x = many(20);
        for (int ghost = 0; ghost < 4; ghost++) is("crossed by " + ghost, x.ghost(ghost, 1), 0);
        x.glide(0, 0);
        x.glide(2, 1);
        is("crossed by 0", x.ghost(0, 1), 1);
        is("crossed by 1", x.ghost(1, 1), 0);
        is("crossed by 2", x.ghost(2, 1), 2);
        x.pass(60);
        for (int ghost = 0; ghost < 4; ghost++) is("crossed by " + ghost + " since the bell", x.ghost(ghost, 1), 0);
    }

    @Edge(promise = 0, says = "A board is free to a ghost, if it has not crossed it, and neither room of the board is watched")
    static void freeBoards() {
        Counted x = boards("ab11;bc91;cd11;de11");
        x.sleeper(2, 9);
        x.glide(0, 0);
        is("crossed by 0, free to the others", x.board(0, 5), 0b1110);
        is("free to all", x.board(1, 5), 0b1111);
        x.put(1, 1);
        is("glide(1, 1) wakes who is in c", x.glide(1, 1), 1);
        is("not watched, ab", x.board(0, 5), 0b1110);
        is("its greater room is watched, bc", x.board(1, 5), 0);
        is("its lower room is watched, cd", x.board(2, 5), 0);
        is("not watched, de", x.board(3, 5), 0b1111);
        x.pass(8);
        is("watched for a minute still", x.board(2, 5), 0);
        x.pass(1);
        is("not watched any more, bc, crossed by 1", x.board(1, 5), 0b1101);
        is("not watched any more, cd", x.board(2, 5), 0b1111);
    }

    @Edge(promise = 0, says = "the board creaks at once, then as many minutes pass as it takes, and the ghost is there")
    static void creaksAtOnce() {
        for (int minutes = 1; minutes <= 9; minutes++) {
            Counted x = new Counted();
            x.lay(0, 1, 9, minutes);
            x.lay(1, 2, 1, 1);
            x.sleeper(1, 9);
            x.set(AWAKE, 5);
            is("glide over " + minutes, x.glide(0, 0), 1);
            is("awake behind " + minutes, x.sleeperOf(0, 2), Math.max(5 - minutes, 0));
            is("minutes", x.count(2), minutes);
            is("room", x.ghost(0, 0), 1);
            is("glide on behind " + minutes, x.glide(0, 1), minutes < 5 ? NOT_POSSIBLE : 0);
        }
    }

    @Edge(promise = 0, says = "since the last bell, if one rings in these minutes: it has crossed it behind the bell")
    static void bellsWhileItGlides() {
        for (int start = 45; start <= 60; start++) {
            Counted x = boards("ab11;ab19;ab11");
            x.glide(0, 0);
            x.glide(1, 2);
            x.pass(start - 2);
            boolean rang = start < 60 && start + 9 >= 60;
            boolean before = start == 60;
            is("glide(0, 1) at " + start, x.glide(0, 1), 0);
            is("crossed by 0, at " + start, x.ghost(0, 1), rang || before ? 0b10 : 0b11);
            is("crossed by 1, at " + start, x.ghost(1, 1), rang || before ? 0 : 0b100);
            is("bells, at " + start, x.count(7), rang || before ? 1 : 0);
            is("glide(0, 1) again, at " + start, x.glide(0, 1), NOT_POSSIBLE);
        }
    }

    @Edge(promise = 0, says = "Minutes may come above 99999 by that")
    static void minutesAboveTheLast() {
        Counted x = new Counted();
        for (int i = 0; i < 3; i++) x.lay(0, 1, 1, 9);
        for (int i = 0; i < 499; i++) x.pass(200);
        x.pass(199);
        is("minutes", x.count(2), 99999);
        x.glide(0, 0);
        is("minutes behind a glide", x.count(2), 100008);
        x.go(0, 0);
        x.glide(0, 2);
        is("minutes behind a bell at 100020", x.count(2), 100026);
        is("crossed since that bell", x.ghost(0, 1), 0b100);
        is("pass(1)", x.pass(1), TOO_MANY);
    }

    // ---- sleepers, the clock

    @Edge(promise = 0, says = "There are up to 5 sleepers, numbered in the order in which they came, each in a room, with an ear, 1 to 9")
    static void fiveSleepers() {
        Counted x = new Counted();
        is("sleeper(0, 0)", x.sleeper(0, 0), BAD_VALUE);
        is("sleeper(0, 10)", x.sleeper(0, 10), BAD_VALUE);
        int[] rooms = {9, 0, 9, 4, 5}, ears = {1, 9, 2, 8, 5};
        for (int i = 0; i < 5; i++) is("sleeper " + i, x.sleeper(rooms[i], ears[i]), i);
        is("one more", x.sleeper(1, 1), TOO_MANY);
        for (int i = 0; i < 5; i++) {
            is("room of " + i, x.sleeperOf(i, 0), rooms[i]);
            is("ear of " + i, x.sleeperOf(i, 1), ears[i]);
        }
        is("sleeperOf(5, 0)", x.sleeperOf(5, 0), NO_SUCH);
    }

    @Edge(promise = 0, says = "its creak less how far the sleeper's room is from the nearer room of the board")
    static void fromTheNearerRoom() {
        Counted x = boards("ab91;bc91;cd91;de91;ef91;fg91;gh91;hi91;ij91");
        for (int room : new int[] {0, 4, 9}) x.sleeper(room, 9);
        for (int i = 0; i < 9; i++) {
            is("loudness to a of " + i, x.loudness(i, 0), 9 - i);
            is("loudness to e of " + i, x.loudness(i, 1), i < 4 ? 6 + i : 13 - i);
            is("loudness to j of " + i, x.loudness(i, 2), 1 + i);
        }
    }

    @Edge(promise = 0, says = "(0 at least, also if both are apart from it)")
    static void loudnessNeverBelowZero() {
        Counted x = boards("ab91;bc91;cd11;de21;ef31;hi91");
        x.sleeper(0, 1);
        is("1 less 2", x.loudness(2, 0), 0);
        is("2 less 3", x.loudness(3, 0), 0);
        is("3 less 4", x.loudness(4, 0), 0);
        is("apart", x.loudness(5, 0), 0);
        x.put(0, 7);
        is("glide over a board apart", x.glide(0, 5), 0);
        x.put(0, 4);
        is("glide over a board with loudness 0", x.glide(0, 4), 0);
        is("woke", x.sleeperOf(0, 3), 0);
        is("boards that would wake it", x.sleeperOf(0, 4), 0b11);
    }

    @Edge(promise = 0, says = "each sleeper to whom its loudness is its ear or more wakes")
    static void earOrMore() {
        Counted x = boards("ab51");
        for (int ear = 4; ear <= 6; ear++) x.sleeper(0, ear);
        is("glide(0, 0)", x.glide(0, 0), 0b011);
        is("awake", x.count(5), 0b011);
        is("the one with the ear 6 sleeps", x.sleeperOf(2, 3), 0);
        Counted y = boards("ab91;bc11");
        y.sleeper(2, 8);
        y.sleeper(2, 9);
        is("a board away", y.glide(0, 0), 0b01);
    }

    @Edge(promise = 0, says = "it is awake for AWAKE minutes from then on (anew, if it is awake already")
    static void awakeAnew() {
        Counted x = boards("ab91;ab81;bc11;cd11");
        x.sleeper(3, 6);
        x.glide(0, 0);
        is("awake", x.sleeperOf(0, 2), 9);
        x.pass(8);
        is("awake for the last minute", x.sleeperOf(0, 2), 1);
        is("glide(0, 1), loud enough", x.glide(0, 1), 1);
        is("awake anew, not longer", x.sleeperOf(0, 2), 9);
        is("woke once", x.sleeperOf(0, 3), 1);
        x.set(AWAKE, 3);
        is("glide(1, 0)", x.glide(1, 0), 1);
        is("awake anew, for less than it was", x.sleeperOf(0, 2), 2);
        x.pass(2);
        x.glide(1, 1);
        is("woke again out of sleep", x.sleeperOf(0, 3), 2);
    }

    @Edge(promise = 0, says = "with AWAKE as 0 it falls asleep at once, and has woken all the same")
    static void fallsAsleepAtOnce() {
        Counted x = boards("ab91;bc11;ba91");
        x.sleeper(1, 9);
        x.set(AWAKE, 0);
        is("glide(0, 0)", x.glide(0, 0), 1);
        is("awake", x.sleeperOf(0, 2), 0);
        is("woke", x.sleeperOf(0, 3), 1);
        is("who is awake", x.count(5), 0);
        is("watched rooms", x.count(6), 0);
        is("glide(0, 2) on", x.glide(0, 2), 1);
        is("woke again", x.sleeperOf(0, 3), 2);
    }

    @Edge(promise = 0, says = "with AWAKE as 0 it falls asleep at once, and has woken all the same")
    static void fallsAsleepAtOnceOutOfBeingAwake() {
        Counted x = boards("ab91;bc91");
        x.sleeper(2, 8);
        x.glide(0, 0);
        x.set(AWAKE, 0);
        is("awake before", x.sleeperOf(0, 2), 9);
        is("glide(1, 0)", x.glide(1, 0), 1);
        is("awake", x.sleeperOf(0, 2), 0);
        is("woke out of sleep", x.sleeperOf(0, 3), 1);
        is("watched rooms", x.count(6), 0);
    }

    @Edge(promise = 0, says = "A room is watched while a sleeper in it is awake")
    static void watchedWhileOneIsAwake() {
        Counted x = boards("ab91;bc11;ab31");
        x.sleeper(2, 8);
        x.sleeper(2, 1);
        x.sleeper(9, 1);
        is("glide(0, 0)", x.glide(0, 0), 0b011);
        x.pass(5);
        is("glide(0, 2)", x.glide(0, 2), 0b010);
        is("awake of the first", x.sleeperOf(0, 2), 3);
        is("awake of the second", x.sleeperOf(1, 2), 9);
        x.pass(3);
        is("one is awake", x.count(5), 0b010);
        is("watched by one", x.count(6), 0b100);
        x.pass(5);
        is("watched for a minute still", x.count(6), 0b100);
        x.pass(1);
        is("nobody is awake", x.count(5), 0);
        is("not watched", x.count(6), 0);
    }

    @Edge(promise = 0, says = "Minutes are counted from 0. When a minute passes, the count becomes 1 more")
    static void minutesFromZero() {
        Counted x = new Counted();
        is("at first", x.count(2), 0);
        x.pass(1);
        is("behind pass(1)", x.count(2), 1);
        x.pass(200);
        is("behind pass(200)", x.count(2), 201);
    }

    @Edge(promise = 0, says = "each sleeper who is awake is so for 1 minute less")
    static void aMinuteLess() {
        Counted x = boards("ab91");
        x.sleeper(0, 9);
        x.sleeper(5, 1);
        x.glide(0, 0);
        for (int awake = 9; awake > 0; awake--) {
            is("awake", x.sleeperOf(0, 2), awake);
            x.pass(1);
        }
        is("asleep", x.sleeperOf(0, 2), 0);
        x.pass(200);
        is("not below 0", x.sleeperOf(0, 2), 0);
        is("who was asleep", x.sleeperOf(1, 2), 0);
    }

    @Edge(promise = 0, says = "if the count can be divided by BELL, a bell rings: no ghost has crossed any board any more")
    static void bellsByTheCount() {
        Counted x = boards("ab11");
        for (int ghost = 0; ghost < 4; ghost++) x.glide(ghost, 0);
        x.pass(55);
        is("crossed at 59", x.board(0, 4), 0b1111);
        is("pass(1) to 60", x.pass(1), 1);
        is("crossed at 60", x.board(0, 4), 0);
        is("bells", x.count(7), 1);
        is("set(BELL, 20) at 60", x.set(BELL, 20), 60);
        is("bells, none by set()", x.count(7), 1);
        is("pass(19) to 79", x.pass(19), 0);
        is("set(BELL, 16), by which 80 can be divided", x.set(BELL, 16), 20);
        is("pass(1) to 80", x.pass(1), 1);
        is("set(BELL, 81)", x.set(BELL, 81), 16);
        is("pass(1) to 81", x.pass(1), 1);
        is("bells at last", x.count(7), 3);
    }

    // ---- trails

    @Edge(promise = 0, says = "The boards that are left to a ghost are those that it has not crossed (watched or not)")
    static void watchedBoardsAreLeft() {
        Counted x = boards("ab91;bc11;cd11");
        x.sleeper(1, 9);
        x.sleeper(2, 8);
        x.glide(0, 0);
        is("watched rooms", x.count(6), 0b110);
        is("free at its room", x.ghost(0, 2), 0);
        is("reason(0)", x.reason(0), 0);
        is("trail(0, 0)", x.trail(0, 0), 1);
        is("trail(0, 1)", x.trail(0, 1), 2);
        is("reason(1), nothing crossed", x.reason(1), 0);
    }

    @Edge(promise = 0, says = "1 no board is left to it")
    static void noBoardIsLeft() {
        Counted x = new Counted();
        is("without boards", x.reason(0), 1);
        x.lay(4, 5, 1, 1);
        is("with a board elsewhere", x.reason(0), 2);
        x.put(0, 4);
        is("with a board", x.reason(0), 0);
        x.glide(0, 0);
        is("when it is crossed", x.reason(0), 1);
        x.pass(60);
        is("behind a bell", x.reason(0), 0);
        x.takeUp(0);
        is("when it is taken up", x.reason(0), 1);
    }

    @Edge(promise = 0, says = "2 none of these is at its room")
    static void noneOfTheseAtItsRoom() {
        Counted x = boards("ab11;bc11");
        x.glide(0, 0);
        x.put(0, 0);
        is("one at its room is crossed", x.reason(0), 2);
        x.put(0, 9);
        is("in an empty room", x.reason(0), 2);
        x.put(0, 2);
        is("at the last one", x.reason(0), 0);
    }

    @Edge(promise = 0, says = "3 some of these cannot be come to over others of them")
    static void someCannotBeComeTo() {
        Counted x = boards("ab11;bc11;cd11");
        is("in a row", x.reason(0), 0);
        x.put(0, 1);
        x.glide(0, 1);
        x.put(0, 0);
        is("the one between is crossed", x.reason(0), 3);
        x.put(0, 2);
        is("from the other side", x.reason(0), 3);
        Counted y = boards("ab11;cd11;ac11");
        is("the one between is the last", y.reason(0), 5);
        y.takeUp(2);
        is("without it", y.reason(0), 3);
    }

    @Edge(promise = 0, says = "4 more than two rooms have an odd number of them")
    static void moreThanTwoOddRooms() {
        Counted x = boards("ab11;bc11");
        is("two", x.reason(0), 0);
        x.lay(1, 3, 1, 1);
        is("four", x.reason(0), 4);
        x.lay(2, 3, 1, 1);
        is("two of them joined", x.reason(0), 0);
        x.lay(2, 4, 1, 1);
        x.lay(2, 5, 1, 1);
        is("four again", x.reason(0), 4);
    }

    @Edge(promise = 0, says = "5 two rooms have, but not the room of the ghost")
    static void notTheRoomOfTheGhost() {
        Counted x = boards("ab11;bc11;cd11");
        for (int room = 0; room < 4; room++) {
            x.put(0, room);
            is("in the room " + room, x.reason(0), room == 0 || room == 3 ? 0 : 5);
        }
        x.lay(3, 0, 1, 1);
        for (int room = 0; room < 4; room++) {
            x.put(0, room);
            is("in the room " + room + " of a round", x.reason(0), 0);
        }
    }

    @Edge(promise = 0, says = "if these reasons do not apply; the first that applies is told")
    static void theFirstReasonThatApplies() {
        // Not at its room, apart, with four odd rooms.
        is("2 ahead of 3 and 4", boards("bc11;de11").reason(0), 2);
        // Apart, and four odd rooms.
        is("3 ahead of 4", boards("ab11;cd11").reason(0), 3);
        // Apart, with two odd rooms, neither its own.
        is("3 ahead of 5", boards("ab11;ab11;cd11").reason(0), 3);
        // Four odd rooms, its own not among them.
        is("4 ahead of 5", boards("ab11;ac11;bd11;be11;cf11;cg11").reason(0), 4);
        is("1 ahead of all", new Counted().reason(3), 1);
    }

    @Edge(promise = 0, says = "whose first board has the lowest number that is possible, of these the one whose second board has, and so on")
    static void theLowestTrail() {
        // The lowest board, ab, would leave the round behind.
        Counted x = boards("ab11;ac11;cd11;da11");
        int[] row = {1, 2, 3, 0};
        for (int i = 0; i < 4; i++) is("round first, trail(0, " + i + ")", x.trail(0, i), row[i]);
        // Both rounds are possible first; in the second one the lower board leads the other way round.
        Counted y = boards("ef11;ae11;fa11;ab11;ca11;bc11");
        int[] rounds = {1, 0, 2, 3, 5, 4};
        for (int i = 0; i < 6; i++) is("two rounds, trail(0, " + i + ")", y.trail(0, i), rounds[i]);
        Counted z = many(20);
        for (int i = 0; i < 20; i++) is("twenty, trail(0, " + i + ")", z.trail(0, i), i);
    }

    // ---- texts

    @Edge(promise = 0, says = "The pad is a text of at most 60 characters")
    static void sixtyCharacters() {
        Counted x = new Counted();
        for (int i = 1; i <= 60; i++) is("write of the character " + i, x.write('a'), i);
        is("one more", x.write('a'), TOO_MANY);
        is("count(9)", x.count(9), 60);
        is("wipe()", x.wipe(), 60);
        written(x, "ab11;bc22;cd33;de44;ef55;fg66;gh77;hi88;ij99;ja12;ac34;bd56");
        is("read() of 59 characters", x.read(), 12);
        is("the last one", x.board(11, 3), 6);
    }

    @Edge(promise = 0, says = "rooms are letters a to j, not the same twice, creak and minutes are digits 1 to 9")
    static void lettersAndDigits() {
        String[][] texts = {
            {"`b11", "kb11", "Ab11", "Jb11", "1b11"},
            {"a`11", "ak11", "aB11", "aJ11", "a111", "aa11", "jj11"},
            {"ab/1", "ab01", "ab:1", "aba1"},
            {"ab1/", "ab10", "ab1:", "ab1a"}};
        for (int place = 0; place < 4; place++) {
            for (String text : texts[place]) {
                is("fault() of " + text, written(new Counted(), text).fault(), place);
                is("fault() of cd11;" + text, written(new Counted(), "cd11;" + text).fault(), 5 + place);
            }
        }
        for (String text : new String[] {"ab11", "jb11", "aj11", "ja11", "ab91", "ab19", "ij99"}) {
            is("fault() of " + text, written(new Counted(), text).fault(), NONE);
            is("fault() of cd11;" + text, written(new Counted(), "cd11;" + text).fault(), NONE);
        }
    }

    @Edge(promise = 0, says = "text = board { \";\" board }")
    static void betweenTheBoards() {
        String[] texts = {";", ";ab11", "ab11;", "ab11;;", "ab11;;ab11", "ab11,ab11", "ab11:ab11", "ab11<ab11", "ab11ab11", "ab111"};
        int[] faults = {0, 0, 5, 5, 5, 4, 4, 4, 4, 4};
        for (int i = 0; i < texts.length; i++) is("fault() of " + texts[i], written(new Counted(), texts[i]).fault(), faults[i]);
    }

    @Edge(promise = 0, says = "The fault is the index of the first character that cannot stand at its place")
    static void theFirstOfSeveralFaults() {
        is("k at 0 and 0 at 2", written(new Counted(), "kb01").fault(), 0);
        is("0 at 2 and 0 at 3", written(new Counted(), "ab00").fault(), 2);
        is("0 at 3 and too early", written(new Counted(), "ab10;a").fault(), 3);
        is("in the second board", written(new Counted(), "ab11;ab11;aa").fault(), 11);
        is("the first of all", written(new Counted(), "ab11;x;;;;;;;;;;").fault(), 5);
    }

    @Edge(promise = 0, says = "if there is none and the text ends too early (also if it is empty), it is the length of the text")
    static void endsTooEarly() {
        String text = "ab11;bc22;";
        for (int length = 0; length <= text.length(); length++) {
            Counted x = written(new Counted(), text.substring(0, length));
            is("fault() of " + length + " characters", x.fault(), length == 4 || length == 9 ? NONE : length);
            is("read() of " + length + " characters", x.read(), length == 4 ? 1 : length == 9 ? 2 : BAD_TEXT);
        }
        Counted y = new Counted();
        for (int i = 0; i < 12; i++) y.write(packed("ab11;"));
        is("fault() of 60 characters", y.fault(), 60);
    }

    public static void main(String[] args) throws IOException, IllegalAccessException {
        Edges.run(EdgesOfTermsTest.class, 0, 0);
    }
}
