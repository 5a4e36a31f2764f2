/**
 * Ghosts in an attic who may cross each creaking board once between two bells.
 *
 * What each call answers is promised in ../shared/DOC.md; the form of this file is bound by
 * ../shared/LANGUAGE.md. Sets (of rooms, boards, ghosts, sleepers) are bit masks throughout.
 */
public final class CreakingGhosts {
    public static final int NO_SUCH = -1, BAD_VALUE = -2, BAD_TEXT = -3, TOO_MANY = -4, NOT_POSSIBLE = -5, NONE = -6;
    public static final int BELL = 0, AWAKE = 1;

    private static final int SETTINGS = 2, ROOMS = 10, MOST_BOARDS = 20, GHOSTS = 4, MOST_SLEEPERS = 5;
    private static final int LEAST_BELL = 10, MOST_BELL = 200, FIRST_BELL = 60;
    private static final int LEAST_AWAKE = 0, MOST_AWAKE = 60, FIRST_AWAKE = 10;
    private static final int LOUDEST = 9, SLOWEST = 9, DULLEST_EAR = 9;
    private static final int LONGEST_PASS = 200, LAST_MINUTE = 99999;
    private static final int LONGEST_PAD = 60, MOST_STATES = 6, SLOTS = 2;

    private final Attic attic = new Attic();
    private final Pad pad = new Pad();
    private final History history = new History();
    private final Shelf slots = new Shelf(SLOTS);
    private int savedSlots;
    private final Way way = new Way();

    public CreakingGhosts() {
    }

    // ---- changes

    public int set(int setting, int value) {
        if (!isSetting(setting, value)) return BAD_VALUE;
        history.remember(attic);
        int previous = attic.settings.at(setting);
        attic.settings.store(setting, value);
        return previous;
    }

    public int lay(int room, int other, int creak, int minutes) {
        if (!isRoom(room) || !isRoom(other)) return NO_SUCH;
        if (room == other || !isWithin(creak, 1, LOUDEST) || !isWithin(minutes, 1, SLOWEST)) return BAD_VALUE;
        if (attic.boards.laid >= MOST_BOARDS) return TOO_MANY;
        history.remember(attic);
        attic.boards.append(room, other, creak, minutes);
        return attic.boards.laid - 1;
    }

    public int read() {
        if (pad.firstFault() != NONE) return BAD_TEXT;
        if (attic.boards.laid + pad.boardsInText() > MOST_BOARDS) return TOO_MANY;
        history.remember(attic);
        pad.layAllInto(attic.boards);
        pad.length = 0;
        return attic.boards.laid;
    }

    public int takeUp(int board) {
        if (!attic.boards.has(board)) return NO_SUCH;
        history.remember(attic);
        attic.boards.remove(board);
        attic.ghosts.forgetBoard(board);
        return attic.boards.laid;
    }

    public int sleeper(int room, int ear) {
        if (!isRoom(room)) return NO_SUCH;
        if (!isWithin(ear, 1, DULLEST_EAR)) return BAD_VALUE;
        if (attic.sleepers.come >= MOST_SLEEPERS) return TOO_MANY;
        history.remember(attic);
        attic.sleepers.append(room, ear);
        return attic.sleepers.come - 1;
    }

    public int put(int ghost, int room) {
        if (!isGhost(ghost) || !isRoom(room)) return NO_SUCH;
        history.remember(attic);
        int previous = attic.ghosts.room.at(ghost);
        attic.ghosts.room.store(ghost, room);
        return previous;
    }

    public int glide(int ghost, int board) {
        if (!isGhost(ghost) || !attic.boards.has(board)) return NO_SUCH;
        if (!holds(attic.freeAtRoomOf(ghost), board)) return NOT_POSSIBLE;
        history.remember(attic);
        return attic.letGlide(ghost, board);
    }

    public int go(int ghost, int room) {
        if (!isGhost(ghost) || !isRoom(room)) return NO_SUCH;
        findWay(ghost, room);
        if (!way.found) return NOT_POSSIBLE;
        history.remember(attic);
        for (int i = 0; i < way.length; i++) {
            int board = way.steps.at(i);
            // An earlier board of the way can have woken somebody who watches this one now.
            if (!holds(attic.freeAtRoomOf(ghost), board)) break;
            attic.letGlide(ghost, board);
        }
        return attic.ghosts.room.at(ghost);
    }

    public int pass(int minutes) {
        if (!isWithin(minutes, 1, LONGEST_PASS)) return BAD_VALUE;
        if (attic.minutes + minutes > LAST_MINUTE) return TOO_MANY;
        history.remember(attic);
        return attic.letPass(minutes);
    }

    // ---- what there is; nothing changes

    public int board(int board, int what) {
        if (!attic.boards.has(board)) return NO_SUCH;
        switch (what) {
            case 0: return attic.boards.lower.at(board);
            case 1: return attic.boards.greater.at(board);
            case 2: return attic.boards.creak.at(board);
            case 3: return attic.boards.minutes.at(board);
            case 4: return attic.ghosts.whoCrossed(board);
            case 5: return attic.ghostsFreeFor(board);
            case 6: return attic.boards.creaked.at(board);
            default: return BAD_VALUE;
        }
    }

    public int ghost(int ghost, int what) {
        if (!isGhost(ghost)) return NO_SUCH;
        switch (what) {
            case 0: return attic.ghosts.room.at(ghost);
            case 1: return attic.ghosts.crossed.at(ghost);
            case 2: return attic.freeAtRoomOf(ghost);
            case 3: return attic.boards.roomsFrom(attic.ghosts.room.at(ghost), attic.freeTo(ghost));
            case 4: return attic.ghosts.crossings.at(ghost);
            default: return BAD_VALUE;
        }
    }

    public int sleeperOf(int sleeper, int what) {
        if (!attic.sleepers.has(sleeper)) return NO_SUCH;
        switch (what) {
            case 0: return attic.sleepers.room.at(sleeper);
            case 1: return attic.sleepers.ear.at(sleeper);
            case 2: return attic.sleepers.awake.at(sleeper);
            case 3: return attic.sleepers.woke.at(sleeper);
            case 4: return attic.boardsThatWake(sleeper);
            default: return BAD_VALUE;
        }
    }

    public int loudness(int board, int sleeper) {
        if (!attic.boards.has(board) || !attic.sleepers.has(sleeper)) return NO_SUCH;
        return attic.boards.loudnessIn(attic.sleepers.room.at(sleeper), board);
    }

    public int far(int room, int other) {
        if (!isRoom(room) || !isRoom(other)) return NO_SUCH;
        return attic.boards.fewestTo(room, 1 << other);
    }

    public int count(int what) {
        switch (what) {
            case 0: return attic.settings.at(BELL);
            case 1: return attic.settings.at(AWAKE);
            case 2: return attic.minutes;
            case 3: return attic.boards.laid;
            case 4: return attic.sleepers.come;
            case 5: return attic.sleepers.whoAreAwake();
            case 6: return attic.sleepers.watchedRooms();
            case 7: return attic.bells;
            case 8: return attic.minutesToBell();
            case 9: return pad.length;
            case 10: return history.kept;
            default: return BAD_VALUE;
        }
    }

    // ---- what if; nothing changes

    public int soonest(int ghost, int room, int what) {
        if (!isGhost(ghost) || !isRoom(room)) return NO_SUCH;
        if (what < 0) return BAD_VALUE;
        findWay(ghost, room);
        if (!way.found) return NONE;
        if (what == 0) return way.minutes;
        if (what == 1) return way.length;
        return what - 2 < way.length ? way.steps.at(what - 2) : NONE;
    }

    public int quietest(int ghost, int room) {
        if (!isGhost(ghost) || !isRoom(room)) return NO_SUCH;
        int start = attic.ghosts.room.at(ghost);
        int free = attic.freeTo(ghost);
        for (int creak = 0; creak <= LOUDEST; creak++) {
            if (holds(attic.boards.roomsFrom(start, free & attic.boards.atMostAsLoud(creak)), room)) return creak;
        }
        return NONE;
    }

    public int reason(int ghost) {
        if (!isGhost(ghost)) return NO_SUCH;
        return Trail.whyNot(attic.boards, attic.leftTo(ghost), attic.ghosts.room.at(ghost));
    }

    public int trail(int ghost, int step) {
        if (!isGhost(ghost) || step < 0) return NO_SUCH;
        int left = attic.leftTo(ghost);
        int room = attic.ghosts.room.at(ghost);
        if (Trail.whyNot(attic.boards, left, room) != 0) return NOT_POSSIBLE;
        return Trail.boardAt(attic.boards, left, room, step);
    }

    public int worstGap(int what) {
        if (what != 0 && what != 1) return BAD_VALUE;
        int worst = NONE;
        int most = 0;
        for (int board = 0; board < attic.boards.laid; board++) {
            int pairs = attic.boards.pairsApartWithout(board);
            if (pairs > most) {
                most = pairs;
                worst = board;
            }
        }
        if (most == 0) return NONE;
        return what == 0 ? worst : most;
    }

    // ---- texts

    public int write(long characters) {
        int more = Pad.howMany(characters);
        if (more == 0) return BAD_VALUE;
        if (pad.length + more > LONGEST_PAD) return TOO_MANY;
        pad.append(characters, more);
        return pad.length;
    }

    public int wipe() {
        int previous = pad.length;
        pad.length = 0;
        return previous;
    }

    public int fault() {
        return pad.firstFault();
    }

    // ---- undo, saving

    public int undo() {
        if (history.kept == 0) return NOT_POSSIBLE;
        history.stepBack(attic);
        return history.kept;
    }

    public int save(int slot) {
        if (!isSlot(slot)) return BAD_VALUE;
        slots.keep(slot, attic);
        savedSlots |= 1 << slot;
        return attic.boards.laid;
    }

    public int restore(int slot) {
        if (!isSlot(slot)) return BAD_VALUE;
        if (!holds(savedSlots, slot)) return NOT_POSSIBLE;
        history.remember(attic);
        slots.fetch(slot, attic);
        return attic.boards.laid;
    }

    // ---- helpers

    private void findWay(int ghost, int room) {
        way.find(attic.boards, attic.freeTo(ghost), attic.ghosts.room.at(ghost), room);
    }

    private static boolean isWithin(int value, int least, int most) {
        return value >= least && value <= most;
    }

    private static boolean isSetting(int setting, int value) {
        if (setting == BELL) return isWithin(value, LEAST_BELL, MOST_BELL);
        return setting == AWAKE && isWithin(value, LEAST_AWAKE, MOST_AWAKE);
    }

    private static boolean isRoom(int room) {
        return isWithin(room, 0, ROOMS - 1);
    }

    private static boolean isGhost(int ghost) {
        return isWithin(ghost, 0, GHOSTS - 1);
    }

    private static boolean isSlot(int slot) {
        return isWithin(slot, 0, SLOTS - 1);
    }

    private static boolean holds(int set, int member) {
        return (set >> member & 1) != 0;
    }

    /** A row of numbers that looks at every index: one that is not there reads as 0 and stores nothing. */
    private static final class Row {
        private final int[] cells;

        Row(int length) {
            cells = new int[Math.max(length, 0)];
        }

        int at(int index) {
            return index >= 0 && index < cells.length ? cells[index] : 0;
        }

        void store(int index, int value) {
            if (index >= 0 && index < cells.length) cells[index] = value;
        }

        void increase(int index) {
            store(index, at(index) + 1);
        }

        void fill(int value) {
            for (int i = 0; i < cells.length; i++) cells[i] = value;
        }

        void moveUpBehind(int index) {
            for (int i = Math.max(index, 0); i < cells.length - 1; i++) cells[i] = cells[i + 1];
        }

        void copyFrom(Row other) {
            System.arraycopy(other.cells, 0, cells, 0, Math.min(other.cells.length, cells.length));
        }
    }

    /** The boards as they were laid, and where one comes to over a set of them. */
    private static final class Boards {
        int laid;
        final Row lower = new Row(MOST_BOARDS);
        final Row greater = new Row(MOST_BOARDS);
        // Both rooms of each board as a set, for most questions ask whether a board touches some rooms.
        final Row ends = new Row(MOST_BOARDS);
        final Row creak = new Row(MOST_BOARDS);
        final Row minutes = new Row(MOST_BOARDS);
        final Row creaked = new Row(MOST_BOARDS);

        void copyFrom(Boards other) {
            laid = other.laid;
            lower.copyFrom(other.lower);
            greater.copyFrom(other.greater);
            ends.copyFrom(other.ends);
            creak.copyFrom(other.creak);
            minutes.copyFrom(other.minutes);
            creaked.copyFrom(other.creaked);
        }

        boolean has(int board) {
            return isWithin(board, 0, laid - 1);
        }

        void append(int room, int other, int itsCreak, int itsMinutes) {
            if (laid >= MOST_BOARDS) return;
            lower.store(laid, Math.min(room, other));
            greater.store(laid, Math.max(room, other));
            ends.store(laid, 1 << room | 1 << other);
            creak.store(laid, itsCreak);
            minutes.store(laid, itsMinutes);
            creaked.store(laid, 0);
            laid++;
        }

        void remove(int board) {
            if (!has(board)) return;
            lower.moveUpBehind(board);
            greater.moveUpBehind(board);
            ends.moveUpBehind(board);
            creak.moveUpBehind(board);
            minutes.moveUpBehind(board);
            creaked.moveUpBehind(board);
            laid--;
        }

        int all() {
            return (1 << laid) - 1;
        }

        int beyond(int board, int room) {
            return lower.at(board) == room ? greater.at(board) : lower.at(board);
        }

        /** The boards with an end in one of the rooms. */
        int touching(int rooms) {
            int boards = 0;
            for (int board = 0; board < laid; board++) {
                if ((ends.at(board) & rooms) != 0) boards |= 1 << board;
            }
            return boards;
        }

        int atMostAsLoud(int limit) {
            int boards = 0;
            for (int board = 0; board < laid; board++) {
                if (creak.at(board) <= limit) boards |= 1 << board;
            }
            return boards;
        }

        /** The rooms, and those that are one board of the set away from them. */
        int widened(int rooms, int set) {
            int wider = rooms;
            for (int board = 0; board < laid; board++) {
                if (holds(set, board) && (ends.at(board) & rooms) != 0) wider |= ends.at(board);
            }
            return wider;
        }

        /** The rooms to which the boards of the set lead from a room, itself among them. */
        int roomsFrom(int room, int set) {
            int rooms = 1 << room;
            for (int i = 1; i < ROOMS; i++) {
                int wider = widened(rooms, set);
                if (wider == rooms) break;
                rooms = wider;
            }
            return rooms;
        }

        /** How many boards it takes at least from a room to one of the goals; NONE if there is no way. */
        int fewestTo(int room, int goals) {
            int rooms = 1 << room;
            for (int steps = 0; steps < ROOMS; steps++) {
                if ((rooms & goals) != 0) return steps;
                int wider = widened(rooms, all());
                if (wider == rooms) break;
                rooms = wider;
            }
            return NONE;
        }

        int loudnessIn(int room, int board) {
            int steps = fewestTo(room, ends.at(board));
            return steps == NONE ? 0 : Math.max(creak.at(board) - steps, 0);
        }

        int pairsApartWithout(int board) {
            int others = all() & ~(1 << board);
            int here = roomsFrom(lower.at(board), others);
            if (holds(here, greater.at(board))) return 0;
            int there = roomsFrom(greater.at(board), others);
            return Integer.bitCount(here) * Integer.bitCount(there);
        }
    }

    private static final class Ghosts {
        final Row room = new Row(GHOSTS);
        final Row crossed = new Row(GHOSTS);
        final Row crossings = new Row(GHOSTS);

        void copyFrom(Ghosts other) {
            room.copyFrom(other.room);
            crossed.copyFrom(other.crossed);
            crossings.copyFrom(other.crossings);
        }

        int whoCrossed(int board) {
            int who = 0;
            for (int ghost = 0; ghost < GHOSTS; ghost++) {
                if (holds(crossed.at(ghost), board)) who |= 1 << ghost;
            }
            return who;
        }

        void cross(int ghost, int board, int newRoom) {
            room.store(ghost, newRoom);
            crossed.store(ghost, crossed.at(ghost) | 1 << board);
            crossings.increase(ghost);
        }

        /** The boards behind one that is taken up get a number less, so their bits move down. */
        void forgetBoard(int board) {
            int before = (1 << board) - 1;
            for (int ghost = 0; ghost < GHOSTS; ghost++) {
                int set = crossed.at(ghost);
                crossed.store(ghost, (set & before) | (set >> 1 & ~before));
            }
        }
    }

    private static final class Sleepers {
        int come;
        final Row room = new Row(MOST_SLEEPERS);
        final Row ear = new Row(MOST_SLEEPERS);
        final Row awake = new Row(MOST_SLEEPERS);
        final Row woke = new Row(MOST_SLEEPERS);

        void copyFrom(Sleepers other) {
            come = other.come;
            room.copyFrom(other.room);
            ear.copyFrom(other.ear);
            awake.copyFrom(other.awake);
            woke.copyFrom(other.woke);
        }

        boolean has(int sleeper) {
            return isWithin(sleeper, 0, come - 1);
        }

        void append(int itsRoom, int itsEar) {
            if (come >= MOST_SLEEPERS) return;
            room.store(come, itsRoom);
            ear.store(come, itsEar);
            awake.store(come, 0);
            woke.store(come, 0);
            come++;
        }

        int whoAreAwake() {
            int who = 0;
            for (int sleeper = 0; sleeper < come; sleeper++) {
                if (awake.at(sleeper) > 0) who |= 1 << sleeper;
            }
            return who;
        }

        int watchedRooms() {
            int rooms = 0;
            for (int sleeper = 0; sleeper < come; sleeper++) {
                if (awake.at(sleeper) > 0) rooms |= 1 << room.at(sleeper);
            }
            return rooms;
        }

        void wake(int sleeper, int minutes) {
            if (awake.at(sleeper) == 0) woke.increase(sleeper);
            awake.store(sleeper, minutes);
        }

        void tire(int minutes) {
            for (int sleeper = 0; sleeper < come; sleeper++) {
                awake.store(sleeper, Math.max(awake.at(sleeper) - minutes, 0));
            }
        }
    }

    /** All that undo, save and restore bring back. */
    private static final class Attic {
        int minutes;
        int bells;
        final Row settings = new Row(SETTINGS);
        final Boards boards = new Boards();
        final Ghosts ghosts = new Ghosts();
        final Sleepers sleepers = new Sleepers();

        Attic() {
            settings.store(BELL, FIRST_BELL);
            settings.store(AWAKE, FIRST_AWAKE);
        }

        void copyFrom(Attic other) {
            minutes = other.minutes;
            bells = other.bells;
            settings.copyFrom(other.settings);
            boards.copyFrom(other.boards);
            ghosts.copyFrom(other.ghosts);
            sleepers.copyFrom(other.sleepers);
        }

        /** Never below 1, so that it can divide. */
        private int minutesBetweenBells() {
            return Math.max(settings.at(BELL), 1);
        }

        int minutesToBell() {
            return minutesBetweenBells() - minutes % minutesBetweenBells();
        }

        /** The boards that a ghost has not crossed, watched or not. */
        int leftTo(int ghost) {
            return boards.all() & ~ghosts.crossed.at(ghost);
        }

        int freeTo(int ghost) {
            return leftTo(ghost) & ~boards.touching(sleepers.watchedRooms());
        }

        int freeAtRoomOf(int ghost) {
            return freeTo(ghost) & boards.touching(1 << ghosts.room.at(ghost));
        }

        int ghostsFreeFor(int board) {
            int who = 0;
            for (int ghost = 0; ghost < GHOSTS; ghost++) {
                if (holds(freeTo(ghost), board)) who |= 1 << ghost;
            }
            return who;
        }

        int boardsThatWake(int sleeper) {
            int set = 0;
            int room = sleepers.room.at(sleeper);
            for (int board = 0; board < boards.laid; board++) {
                if (boards.loudnessIn(room, board) >= sleepers.ear.at(sleeper)) set |= 1 << board;
            }
            return set;
        }

        /** Lets a board creak, and returns who wakes by it. */
        private int letCreak(int board) {
            boards.creaked.increase(board);
            int who = 0;
            for (int sleeper = 0; sleeper < sleepers.come; sleeper++) {
                int loudness = boards.loudnessIn(sleepers.room.at(sleeper), board);
                if (loudness >= sleepers.ear.at(sleeper)) {
                    sleepers.wake(sleeper, settings.at(AWAKE));
                    who |= 1 << sleeper;
                }
            }
            return who;
        }

        /** Lets minutes pass, and returns how many bells ring in them. */
        int letPass(int more) {
            int rung = (minutes + more) / minutesBetweenBells() - minutes / minutesBetweenBells();
            minutes += more;
            bells += rung;
            sleepers.tire(more);
            if (rung > 0) ghosts.crossed.fill(0);
            return rung;
        }

        /** Lets a ghost glide over a board at its room, and returns who wakes by it. */
        int letGlide(int ghost, int board) {
            int who = letCreak(board);
            letPass(boards.minutes.at(board));
            // Only now, for it has crossed the board behind a bell that rang on the way.
            ghosts.cross(ghost, board, boards.beyond(board, ghosts.room.at(ghost)));
            return who;
        }
    }

    /** The soonest way between two rooms; one object serves every call. */
    private static final class Way {
        // A way has fewer boards than there are rooms, so one minute outweighs all its boards.
        private static final int MINUTE = ROOMS;
        private static final int NO_WAY = 1000000;

        private final Row costs = new Row(ROOMS);
        final Row steps = new Row(ROOMS);
        boolean found;
        int minutes;
        int length;

        void find(Boards boards, int set, int from, int to) {
            weigh(boards, set, to);
            found = costs.at(from) < NO_WAY;
            minutes = 0;
            length = 0;
            int room = from;
            for (int i = 0; i < ROOMS && found && room != to; i++) {
                int board = firstStep(boards, set, room);
                steps.store(i, board);
                minutes += boards.minutes.at(board);
                length++;
                room = boards.beyond(board, room);
            }
        }

        /** Finds what the soonest way to a room costs from each room. */
        private void weigh(Boards boards, int set, int to) {
            costs.fill(NO_WAY);
            costs.store(to, 0);
            boolean cheaper = true;
            for (int i = 0; i < ROOMS && cheaper; i++) {
                cheaper = false;
                for (int board = 0; board < boards.laid; board++) {
                    if (holds(set, board) && lowerCosts(boards, board)) cheaper = true;
                }
            }
        }

        private boolean lowerCosts(Boards boards, int board) {
            int room = boards.lower.at(board);
            int other = boards.greater.at(board);
            int price = priceOf(boards, board);
            if (costs.at(other) + price < costs.at(room)) {
                costs.store(room, costs.at(other) + price);
                return true;
            }
            if (costs.at(room) + price < costs.at(other)) {
                costs.store(other, costs.at(room) + price);
                return true;
            }
            return false;
        }

        private static int priceOf(Boards boards, int board) {
            return boards.minutes.at(board) * MINUTE + 1;
        }

        /** The lowest board with which a soonest way from a room begins. */
        private int firstStep(Boards boards, int set, int room) {
            int candidates = set & boards.touching(1 << room);
            for (int board = 0; board < boards.laid; board++) {
                int rest = costs.at(boards.beyond(board, room));
                if (holds(candidates, board) && rest + priceOf(boards, board) == costs.at(room)) return board;
            }
            return NONE;
        }
    }

    /** Ways over all boards of a set, each once. */
    private static final class Trail {
        private static final int NO_BOARD = 1, NONE_AT_ROOM = 2, NOT_ALL_REACHED = 3, TOO_MANY_ODD = 4, WRONG_START = 5;

        /** Why there is no trail over the boards that are left; 0 if there is one. */
        static int whyNot(Boards boards, int left, int room) {
            int odd = 0;
            int touched = 0;
            for (int board = 0; board < boards.laid; board++) {
                if (holds(left, board)) {
                    odd ^= boards.ends.at(board);
                    touched |= boards.ends.at(board);
                }
            }
            if (left == 0) return NO_BOARD;
            if (!holds(touched, room)) return NONE_AT_ROOM;
            if ((touched & ~boards.roomsFrom(room, left)) != 0) return NOT_ALL_REACHED;
            if (Integer.bitCount(odd) > 2) return TOO_MANY_ODD;
            return odd == 0 || holds(odd, room) ? 0 : WRONG_START;
        }

        /** The board of the first trail at a step; NONE if the trail has not so many. */
        static int boardAt(Boards boards, int left, int room, int step) {
            int rest = left;
            int here = room;
            for (int i = 0; i < MOST_BOARDS && rest != 0; i++) {
                int board = firstBoard(boards, rest, here);
                if (i == step || board == NONE) return board;
                rest &= ~(1 << board);
                here = boards.beyond(board, here);
            }
            return NONE;
        }

        /** The lowest board behind which a trail over the others goes on. */
        private static int firstBoard(Boards boards, int left, int room) {
            int candidates = left & boards.touching(1 << room);
            for (int board = 0; board < boards.laid; board++) {
                if (holds(candidates, board)) {
                    int others = left & ~(1 << board);
                    if (others == 0 || whyNot(boards, others, boards.beyond(board, room)) == 0) return board;
                }
            }
            return NONE;
        }
    }

    /** The text that is written piece by piece: boards of four signs each, with ';' between them. */
    private static final class Pad {
        private static final int FIRST_SIGN = 33, LAST_SIGN = 126;
        private static final int PERIOD = 5, BYTES = 8;

        int length;
        private final Row signs = new Row(LONGEST_PAD);

        /** How many characters are packed in a number; 0 if it holds none, or anything that is none. */
        static int howMany(long characters) {
            int many = 0;
            for (int i = 0; i < BYTES; i++) {
                int sign = signAt(characters, i);
                if (sign == 0) return characters >>> 8 * i == 0 ? many : 0;
                if (!isWithin(sign, FIRST_SIGN, LAST_SIGN)) return 0;
                many++;
            }
            return many;
        }

        /** The sign that stands so many places before the last one. */
        private static int signAt(long characters, int placesBefore) {
            return (int) (characters >>> 8 * placesBefore & 255);
        }

        void append(long characters, int many) {
            for (int i = many - 1; i >= 0 && length < LONGEST_PAD; i--) {
                signs.store(length, signAt(characters, i));
                length++;
            }
        }

        int firstFault() {
            for (int i = 0; i < length; i++) {
                if (!canStand(i)) return i;
            }
            return length % PERIOD == PERIOD - 1 ? NONE : length;
        }

        private boolean canStand(int index) {
            int sign = signs.at(index);
            switch (index % PERIOD) {
                case 0: return isLetter(sign);
                case 1: return isLetter(sign) && sign != signs.at(index - 1);
                case PERIOD - 1: return sign == ';';
                default: return isWithin(sign, '1', '9');
            }
        }

        private static boolean isLetter(int sign) {
            return isWithin(sign, 'a', 'a' + ROOMS - 1);
        }

        /** Of a text without a fault. */
        int boardsInText() {
            return (length + 1) / PERIOD;
        }

        /** Of a text without a fault. */
        void layAllInto(Boards boards) {
            for (int i = 0; i + PERIOD - 2 < length; i += PERIOD) {
                boards.append(signs.at(i) - 'a', signs.at(i + 1) - 'a', signs.at(i + 2) - '0', signs.at(i + 3) - '0');
            }
        }
    }

    /** Copies of the attic, made once and written over again. */
    private static final class Shelf {
        private final Attic[] copies;

        Shelf(int places) {
            copies = new Attic[Math.max(places, 0)];
            for (int i = 0; i < copies.length; i++) copies[i] = new Attic();
        }

        private boolean has(int place) {
            return place >= 0 && place < copies.length && copies[place] != null;
        }

        void keep(int place, Attic attic) {
            if (has(place)) copies[place].copyFrom(attic);
        }

        void fetch(int place, Attic attic) {
            if (has(place)) attic.copyFrom(copies[place]);
        }
    }

    /** The latest states before changes, in a ring where a new one takes the place of the oldest. */
    private static final class History {
        private final Shelf states = new Shelf(MOST_STATES);
        private int next;
        int kept;

        void remember(Attic attic) {
            states.keep(next, attic);
            next = next + 1 < MOST_STATES ? next + 1 : 0;
            kept = Math.min(kept + 1, MOST_STATES);
        }

        void stepBack(Attic attic) {
            if (kept == 0) return;
            next = next > 0 ? next - 1 : MOST_STATES - 1;
            kept--;
            states.fetch(next, attic);
        }
    }
}
