/** A CreakingGhosts that refuses its 513th call, because the document promises nothing of it. */
final class Counted {
    private static final int MOST_CALLS = 512;

    private final CreakingGhosts ghosts = new CreakingGhosts();
    private int calls;

    private CreakingGhosts next() {
        calls++;
        if (calls > MOST_CALLS) throw new IllegalStateException("the test makes more than " + MOST_CALLS + " calls");
        return ghosts;
    }

    int calls() { return calls; }

    int set(int setting, int value) { return next().set(setting, value); }
    int lay(int room, int other, int creak, int minutes) { return next().lay(room, other, creak, minutes); }
    int read() { return next().read(); }
    int takeUp(int board) { return next().takeUp(board); }
    int sleeper(int room, int ear) { return next().sleeper(room, ear); }
    int put(int ghost, int room) { return next().put(ghost, room); }
    int glide(int ghost, int board) { return next().glide(ghost, board); }
    int go(int ghost, int room) { return next().go(ghost, room); }
    int pass(int minutes) { return next().pass(minutes); }
    int board(int board, int what) { return next().board(board, what); }
    int ghost(int ghost, int what) { return next().ghost(ghost, what); }
    int sleeperOf(int sleeper, int what) { return next().sleeperOf(sleeper, what); }
    int loudness(int board, int sleeper) { return next().loudness(board, sleeper); }
    int far(int room, int other) { return next().far(room, other); }
    int count(int what) { return next().count(what); }
    int soonest(int ghost, int room, int what) { return next().soonest(ghost, room, what); }
    int quietest(int ghost, int room) { return next().quietest(ghost, room); }
    int reason(int ghost) { return next().reason(ghost); }
    int trail(int ghost, int step) { return next().trail(ghost, step); }
    int worstGap(int what) { return next().worstGap(what); }
    int write(long characters) { return next().write(characters); }
    int wipe() { return next().wipe(); }
    int fault() { return next().fault(); }
    int undo() { return next().undo(); }
    int save(int slot) { return next().save(slot); }
    int restore(int slot) { return next().restore(slot); }
}
