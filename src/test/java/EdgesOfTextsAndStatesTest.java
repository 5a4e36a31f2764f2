import java.io.IOException;

/** The boundary cases that the promises 22 to 27 of ../shared/DOC.md name, a test for each. */
public final class EdgesOfTextsAndStatesTest extends Edges {
    private static final String FULL = "ab11;bc22;cd33;de44;ef55;fg66;gh77;hi88;ij99;ja12;ac34;bd56;";

    // ---- promise 22

    @Edge(promise = 22, says = "BAD_VALUE if there is no character")
    static void writesNoCharacter() {
        refused("write(0)", BAD_VALUE, x -> x.write(0L));
        Counted x = written(new Counted(), FULL);
        is("write(0) to a full pad", x.write(0L), BAD_VALUE);
    }

    @Edge(promise = 22, says = "a code is not 33 to 126")
    static void writesCodesOutOfRange() {
        for (int code : new int[] {1, 31, 32, 127, 128, 200, 255}) {
            refused("write of the code " + code, BAD_VALUE, x -> x.write(code));
            for (int place = 0; place < 8; place++) {
                long characters = packed("abcdefgh") & ~(255L << 8 * place) | (long) code << 8 * place;
                is("write of the code " + code + " at " + place, new Counted().write(characters), BAD_VALUE);
            }
        }
        for (int code : new int[] {33, 34, 125, 126}) {
            for (int place = 0; place < 8; place++) {
                long characters = packed("abcdefgh") & ~(255L << 8 * place) | (long) code << 8 * place;
                is("write of the code " + code + " at " + place, new Counted().write(characters), 8);
            }
        }
        refused("write(-1)", BAD_VALUE, x -> x.write(-1L));
        refused("write(-2^63)", BAD_VALUE, x -> x.write(Long.MIN_VALUE));
        refused("write(2^63 - 1)", BAD_VALUE, x -> x.write(Long.MAX_VALUE));
    }

    @Edge(promise = 22, says = "or a bit above 8 bits that are 0 is not 0")
    static void writesBitsAboveTheEnd() {
        refused("write of a gap", BAD_VALUE, x -> x.write(packed("ab") << 24 | 'c'));
        refused("write of a gap at the end", BAD_VALUE, x -> x.write(packed("abcdefg") << 8));
        for (int characters = 0; characters < 7; characters++) {
            long low = packed("abcdefg".substring(0, characters));
            for (int bit = 8 * characters + 8; bit < 64; bit++) {
                is("write of " + characters + " and the bit " + bit, new Counted().write(low | 1L << bit), BAD_VALUE);
            }
        }
    }

    @Edge(promise = 22, says = "1 to 8 characters")
    static void writesOneToEight() {
        for (int length = 1; length <= 8; length++) {
            String text = "ab19;cd2".substring(0, length);
            Counted x = new Counted();
            is("write of " + text, x.write(packed(text)), length);
            is("count(9)", x.count(9), length);
            is("fault()", x.fault(), length == 4 ? NONE : length);
        }
    }

    @Edge(promise = 22, says = "its lowest 8 bits are the last character, the next 8 bits the one before, and so on")
    static void writesInOrder() {
        Counted x = new Counted();
        x.write(packed("ij98;ba7"));
        x.write('6');
        is("read()", x.read(), 2);
        int[][] rows = {{8, 9, 9, 8}, {0, 1, 7, 6}};
        for (int i = 0; i < 2; i++) {
            for (int what = 0; what < 4; what++) is("board(" + i + ", " + what + ")", x.board(i, what), rows[i][what]);
        }
    }

    @Edge(promise = 22, says = "TOO_MANY if the pad would be longer than 60")
    static void writesNotMoreThanSixty() {
        for (int more = 1; more <= 8; more++) {
            String start = FULL.substring(0, 60 - more + 1);
            long characters = packed("abcdefgh".substring(0, more));
            refusedOn(written(busyWithoutText(), start), written(busyWithoutText(), start),
                "write of " + more + " to " + start.length(), TOO_MANY, x -> x.write(characters));
            is("write of " + more + " to 60 less that", written(new Counted(), FULL.substring(0, 60 - more)).write(characters), 60);
        }
        Counted x = written(new Counted(), FULL);
        is("write of a bad code to 60", x.write(' '), BAD_VALUE);
        is("write of 1 to 60", x.write('a'), TOO_MANY);
        is("wipe()", x.wipe(), 60);
        is("write of 8 to 0", x.write(packed("abcdefgh")), 8);
    }

    private static Counted busyWithoutText() {
        Counted x = busy();
        x.wipe();
        return x;
    }

    // ---- promise 23

    @Edge(promise = 23, says = "Empties the pad, and returns the length that it had")
    static void wipes() {
        Counted x = new Counted();
        is("wipe() of an empty pad", x.wipe(), 0);
        written(x, FULL);
        is("wipe() of a full one", x.wipe(), 60);
        is("wipe() again", x.wipe(), 0);
        is("count(9)", x.count(9), 0);
        is("fault()", x.fault(), 0);
        is("read()", x.read(), BAD_TEXT);
        is("count(10)", x.count(10), 0);
        written(x, "ij99");
        is("what was wiped is gone", x.read(), 1);
        is("board(0, 0)", x.board(0, 0), 8);
    }

    // ---- promise 24

    @Edge(promise = 24, says = "Returns the fault of the pad, NONE if there is none")
    static void faults() {
        Counted x = new Counted();
        is("fault() of an empty pad", x.fault(), 0);
        for (int length = 1; length <= 60; length++) {
            x.write(FULL.charAt(length - 1));
            is("fault() of " + length + " characters", x.fault(), length % 5 == 4 ? NONE : length);
        }
        x.wipe();
        for (int i = 0; i < 60; i++) x.write('~');
        is("fault() of 60 signs that cannot stand", x.fault(), 0);
    }

    @Edge(promise = 24, says = "Returns the fault of the pad, NONE if there is none")
    static void faultsAtEachPlace() {
        for (int place = 0; place < 59; place++) {
            String text = FULL.substring(0, place) + "!" + FULL.substring(place + 1, 59);
            is("fault() of " + text, written(new Counted(), text).fault(), place);
        }
        is("fault() at 59", written(new Counted(), FULL.substring(0, 59) + "!").fault(), 59);
    }

    @Edge(promise = 24, says = "Returns the fault of the pad, NONE if there is none")
    static void faultChangesNothing() {
        Counted x = written(many(20), "ab11");
        is("fault() when there are 20 boards", x.fault(), NONE);
        is("read()", x.read(), TOO_MANY);
        is("fault() then", x.fault(), NONE);
        is("count(9)", x.count(9), 4);
    }

    // ---- promise 25

    @Edge(promise = 25, says = "NOT_POSSIBLE if there is none")
    static void undoesNothing() {
        refusedOn(written(new Counted(), "ab"), written(new Counted(), "ab"), "undo()", NOT_POSSIBLE, Counted::undo);
        Counted x = busy();
        for (int kept = 5; kept >= 0; kept--) is("undo()", x.undo(), kept);
        is("undo() of no more", x.undo(), NOT_POSSIBLE);
        is("count(10)", x.count(10), 0);
    }

    @Edge(promise = 25, says = "A history of at most 6 states is kept")
    static void keepsSixStates() {
        for (int changes = 1; changes <= 14; changes++) {
            Counted x = new Counted();
            for (int i = 1; i <= changes; i++) x.pass(i);
            int kept = Math.min(changes, 6);
            is("changes of " + changes, x.count(10), kept);
            for (int i = 1; i <= kept; i++) {
                is("undo() the time " + i, x.undo(), kept - i);
                is("minutes then", x.count(2), (changes - i) * (changes - i + 1) / 2);
            }
            is("undo() of " + changes + " at last", x.undo(), NOT_POSSIBLE);
        }
    }

    @Edge(promise = 25, says = "when one more is recorded, the oldest one is dropped")
    static void dropsTheOldest() {
        Counted x = new Counted();
        for (int i = 1; i <= 6; i++) x.put(0, i);
        x.undo();
        x.undo();
        x.put(0, 7);
        x.put(0, 8);
        x.put(0, 9);
        is("count(10)", x.count(10), 6);
        int[] rooms = {8, 7, 4, 3, 2, 1};
        for (int i = 0; i < 6; i++) {
            is("undo()", x.undo(), 5 - i);
            is("room", x.ghost(0, 0), rooms[i]);
        }
        is("undo() to the room 0, which was dropped", x.undo(), NOT_POSSIBLE);
        is("room at last", x.ghost(0, 0), 1);
    }

    @Edge(promise = 25, says = "each method that is a change, and returns no error, records the state before it (also if nothing is different then)")
    static void recordsAlsoWhenNothingIsDifferent() {
        Counted x = boards("ab11");
        x.set(BELL, 60);
        is("set() of the same value", x.count(10), 2);
        x.put(0, 0);
        is("put() into the same room", x.count(10), 3);
        x.go(0, 0);
        is("go() to the same room", x.count(10), 4);
        x.save(0);
        is("save() is no change", x.count(10), 4);
        x.restore(0);
        is("restore() of the same state", x.count(10), 5);
        x.set(AWAKE, 10);
        is("set() of the same value again", x.count(10), 6);
        x.put(0, 0);
        is("no more than six", x.count(10), 6);
        for (int i = 0; i < 6; i++) x.undo();
        is("the lay() was dropped", x.count(3), 1);
    }

    @Edge(promise = 25, says = "each method that is a change, and returns no error, records the state before it")
    static void recordsEachChange() {
        Call[] changes = {x -> x.set(BELL, 33), x -> x.lay(8, 9, 7, 6), Counted::read, x -> x.takeUp(1),
            x -> x.sleeper(7, 7), x -> x.put(2, 8), x -> x.glide(2, 0), x -> x.go(2, 1), x -> x.pass(199),
            x -> x.restore(0), x -> x.restore(1)};
        for (int i = 0; i < changes.length; i++) {
            Counted x = readyToRead();
            String before = state(x);
            is("count(10) ahead of the change " + i, x.count(10), 6);
            is("no error of the change " + i, Math.min(changes[i].on(x), 0), 0);
            is("count(10) behind the change " + i, x.count(10), 6);
            is("undo() of the change " + i, x.undo(), 5);
            same("behind undo() of the change " + i + " the state", state(x), before);
        }
    }

    private static Counted readyToRead() {
        Counted x = busy();
        x.wipe();
        x.pass(50);
        return written(x, "cd12");
    }

    @Edge(promise = 25, says = "everything except the pad, the slots and the history is as it was before it")
    static void undoLeavesThePad() {
        Counted x = new Counted();
        written(x, "ab12");
        x.read();
        x.undo();
        is("boards behind undo() of read()", x.count(3), 0);
        is("the pad stays empty", x.count(9), 0);
        x.pass(1);
        written(x, "cd3");
        x.undo();
        is("the pad stays written", x.count(9), 3);
        is("its fault", x.fault(), 3);
        x.pass(1);
        x.wipe();
        x.undo();
        is("the pad stays wiped", x.count(9), 0);
    }

    @Edge(promise = 25, says = "everything except the pad, the slots and the history is as it was before it")
    static void undoLeavesTheSlots() {
        Counted x = boards("ab11");
        x.lay(2, 3, 1, 1);
        x.save(0);
        x.undo();
        x.undo();
        is("boards", x.count(3), 0);
        is("restore(1), never saved", x.restore(1), NOT_POSSIBLE);
        is("restore(0)", x.restore(0), 2);
        x.pass(1);
        x.save(0);
        x.undo();
        x.undo();
        is("minutes", x.count(2), 0);
        is("restore(0) of what was saved last", x.restore(0), 2);
        is("minutes then", x.count(2), 1);
    }

    @Edge(promise = 25, says = "each method that is a change, and returns no error, records the state before it")
    static void recordsNoError() {
        Counted x = boards("ab11");
        Call[] errors = {y -> y.set(BELL, 9), y -> y.lay(0, 0, 1, 1), Counted::read, y -> y.takeUp(1), y -> y.sleeper(0, 0),
            y -> y.put(0, 10), y -> y.glide(0, 1), y -> y.go(0, 9), y -> y.pass(0), y -> y.restore(0), y -> y.restore(2),
            y -> y.save(2), y -> y.write(0L)};
        for (int i = 0; i < errors.length; i++) {
            is("an error of the call " + i, Math.max(errors[i].on(x), -1), -1);
            is("changes behind the error " + i, x.count(10), 1);
        }
        x.undo();
        is("an undo() that undoes nothing", x.undo(), NOT_POSSIBLE);
        is("boards", x.count(3), 0);
    }

    @Edge(promise = 25, says = "Returns how many changes can be undone then")
    static void changesAnewBehindUndo() {
        Counted x = new Counted();
        for (int i = 1; i <= 40; i++) {
            x.put(0, i % 10);
            x.put(1, (i + 1) % 10);
            is("undo() in the round " + i, x.undo(), Math.min(i, 5));
            is("room of 0", x.ghost(0, 0), i % 10);
            is("room of 1", x.ghost(1, 0), 0);
        }
    }

    @Edge(promise = 25, says = "everything except the pad, the slots and the history is as it was before it")
    static void undoBringsBackTheWays() {
        Counted x = boards("ab11;bc12;cd13");
        x.takeUp(0);
        is("far(0, 3) behind takeUp(0)", x.far(0, 3), NONE);
        x.undo();
        is("far(0, 3)", x.far(0, 3), 3);
        is("soonest(0, 3, 0)", x.soonest(0, 3, 0), 6);
        is("soonest(0, 3, 4)", x.soonest(0, 3, 4), 2);
        is("reason(0)", x.reason(0), 0);
        is("trail(0, 2)", x.trail(0, 2), 2);
        is("worstGap(0)", x.worstGap(0), 1);
        is("go(0, 3)", x.go(0, 3), 3);
    }

    // ---- promise 26

    @Edge(promise = 26, says = "BAD_VALUE if there is no such slot")
    static void savesInNoSuchSlot() {
        refused("save(2)", BAD_VALUE, x -> x.save(2));
        refused("save(-1)", BAD_VALUE, x -> x.save(-1));
        Counted x = boards("ab11");
        for (int slot : FAR_OFF) is("save(" + slot + ")", x.save(slot), BAD_VALUE);
        is("restore(0)", x.restore(0), NOT_POSSIBLE);
        is("restore(1)", x.restore(1), NOT_POSSIBLE);
    }

    @Edge(promise = 26, says = "Returns how many boards there are")
    static void savesNoneAndTwenty() {
        Counted x = new Counted();
        is("save(0) of a new object", x.save(0), 0);
        Counted y = many(20);
        is("save(1) of twenty", y.save(1), 20);
        y.takeUp(0);
        is("save(0) of nineteen", y.save(0), 19);
        is("restore(1)", y.restore(1), 20);
        is("restore(0)", y.restore(0), 19);
        is("restore(0) of a new object", x.restore(0), 0);
    }

    @Edge(promise = 26, says = "in a slot, and overwrites what was saved there")
    static void overwritesASlot() {
        Counted x = boards("ab11;bc22");
        x.save(0);
        x.save(1);
        x.takeUp(0);
        x.pass(77);
        String later = state(x);
        is("save(0) over it", x.save(0), 1);
        is("restore(1), which stays", x.restore(1), 2);
        is("restore(0)", x.restore(0), 1);
        same("the state", state(x), later);
    }

    @Edge(promise = 26, says = "Saves everything except the pad, the history and the slots")
    static void savesNeitherPadNorHistory() {
        Counted x = busy();
        is("save(0)", x.save(0), 5);
        is("changes", x.count(10), 6);
        x.undo();
        x.undo();
        x.wipe();
        is("restore(0)", x.restore(0), 5);
        is("changes then", x.count(10), 5);
        is("the pad stays empty", x.count(9), 0);
        is("restore(1), which was saved before", x.restore(1), 5);
        is("minutes of that", x.count(2), 0);
    }

    // ---- promise 27

    @Edge(promise = 27, says = "BAD_VALUE if there is no such slot")
    static void restoresFromNoSuchSlot() {
        refused("restore(2)", BAD_VALUE, x -> x.restore(2));
        refused("restore(-1)", BAD_VALUE, x -> x.restore(-1));
        Counted x = boards("ab11");
        x.save(0);
        x.save(1);
        for (int slot : FAR_OFF) is("restore(" + slot + ")", x.restore(slot), BAD_VALUE);
    }

    @Edge(promise = 27, says = "NOT_POSSIBLE if nothing was saved in it")
    static void restoresNothing() {
        refusedOn(savedIn(0), savedIn(0), "restore(1)", NOT_POSSIBLE, x -> x.restore(1));
        refusedOn(savedIn(1), savedIn(1), "restore(0)", NOT_POSSIBLE, x -> x.restore(0));
    }

    private static Counted savedIn(int slot) {
        Counted x = boards("ab11;bc11");
        x.save(slot);
        x.lay(4, 5, 1, 1);
        return x;
    }

    @Edge(promise = 27, says = "Restores what was saved last in a slot, which keeps it")
    static void keepsWhatWasSaved() {
        Counted x = busy();
        x.pass(40);
        x.glide(0, 0);
        x.save(1);
        String saved = state(x);
        for (int i = 0; i < 3; i++) {
            x.takeUp(0);
            x.sleeper(5, 5);
            x.set(BELL, 77);
            x.set(AWAKE, 7);
            x.pass(88);
            x.put(1, 6);
            is("restore(1) the time " + i, x.restore(1), 5);
            same("the state the time " + i, state(x), saved);
        }
    }

    @Edge(promise = 27, says = "Restores what was saved last in a slot, which keeps it. This is a change")
    static void restoreIsAChange() {
        Counted x = boards("ab11");
        x.save(0);
        x.lay(1, 2, 3, 4);
        x.sleeper(2, 3);
        x.glide(0, 0);
        String before = state(x);
        is("restore(0)", x.restore(0), 1);
        is("changes", x.count(10), 5);
        is("sleepers", x.count(4), 0);
        is("undo()", x.undo(), 4);
        same("behind undo() the state", state(x), before);
        is("restore(0) again", x.restore(0), 1);
    }

    @Edge(promise = 27, says = "Restores what was saved last in a slot")
    static void restoresOtherBoardsAndSleepers() {
        Counted x = boards("ab91;bc91");
        x.sleeper(1, 5);
        x.save(0);
        x.undo();
        x.undo();
        x.undo();
        x.sleeper(0, 7);
        x.lay(8, 9, 1, 1);
        x.lay(7, 8, 1, 1);
        x.save(1);
        is("restore(0)", x.restore(0), 2);
        is("room of the sleeper", x.sleeperOf(0, 0), 1);
        is("ear of the sleeper", x.sleeperOf(0, 1), 5);
        is("boards that would wake it", x.sleeperOf(0, 4), 3);
        is("far(0, 2)", x.far(0, 2), 2);
        is("far(7, 9)", x.far(7, 9), NONE);
        is("restore(1)", x.restore(1), 2);
        is("room of the other sleeper", x.sleeperOf(0, 0), 0);
        is("ear of the other sleeper", x.sleeperOf(0, 1), 7);
        is("far(7, 9) then", x.far(7, 9), 2);
        is("far(0, 2) then", x.far(0, 2), NONE);
    }

    @Edge(promise = 27, says = "Restores what was saved last in a slot")
    static void restoreLeavesThePad() {
        Counted x = boards("ab11");
        x.save(0);
        written(x, "cd22");
        x.restore(0);
        is("the pad stays", x.count(9), 4);
        is("read()", x.read(), 2);
        x.save(0);
        written(x, "cd22;");
        x.restore(0);
        is("the pad stays with its fault", x.fault(), 5);
    }

    // ---- the 512 calls

    @Edge(promise = 27, says = "Returns how many boards there are then")
    static void holdsForAllItsCalls() {
        Counted x = many(20);
        x.save(0);
        x.save(1);
        while (x.calls() < 510) {
            x.takeUp(19);
            x.restore(x.calls() % 2);
        }
        is("restore(0) at last", x.restore(0), 20);
        is("undo() as the 512th call", x.undo(), 5);
    }

    public static void main(String[] args) throws IOException, IllegalAccessException {
        Edges.run(EdgesOfTextsAndStatesTest.class, 22, 27);
    }
}
