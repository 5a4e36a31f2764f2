import java.util.ArrayDeque;
import java.util.ArrayList;
import java.util.Arrays;
import java.util.HashMap;
import java.util.List;
import java.util.Map;
import java.util.Random;
import java.util.regex.Matcher;
import java.util.regex.Pattern;

/**
 * Runs of calls by a seeded source, each answered by CreakingGhosts and by a slow model that tries every way and
 * every trail and lets minutes pass one by one. The model shares no code and no way of working with the class.
 */
public final class ModelTest {
    private static final int NO_SUCH = -1, BAD_VALUE = -2, BAD_TEXT = -3, TOO_MANY = -4, NOT_POSSIBLE = -5, NONE = -6;
    private static final int BELL_SETTING = 0, RUNS = 1000, CALLS = 512, MOST_TRIES = 20000;
    private static final Pattern TEXT = Pattern.compile("(([a-j])(?!\\2)[a-j][1-9][1-9];)*([a-j])(?!\\3)[a-j][1-9][1-9]");

    private static final class Plank {
        int one, two, creak, minutes, creaked;
        Plank(int one, int two, int creak, int minutes) {
            this.one = Math.min(one, two);
            this.two = Math.max(one, two);
            this.creak = creak;
            this.minutes = minutes;
        }
        boolean at(int room) { return one == room || two == room; }
        int from(int room) { return one + two - room; }
        Plank copy() {
            Plank p = new Plank(one, two, creak, minutes);
            p.creaked = creaked;
            return p;
        }
    }

    private static final class Person {
        int room, ear, awake, woke;
        Person copy() {
            Person p = new Person();
            p.room = room;
            p.ear = ear;
            p.awake = awake;
            p.woke = woke;
            return p;
        }
    }

    private static final class Spook {
        int room, crossings;
        List<Plank> crossed = new ArrayList<>();
    }

    private static final class World {
        int bell = 60, wakeful = 10, minutes, bells;
        List<Plank> planks = new ArrayList<>();
        List<Person> people = new ArrayList<>();
        List<Spook> spooks = new ArrayList<>();

        World() { for (int i = 0; i < 4; i++) spooks.add(new Spook()); }

        World copy() {
            World w = new World();
            w.bell = bell;
            w.wakeful = wakeful;
            w.minutes = minutes;
            w.bells = bells;
            Map<Plank, Plank> twins = new HashMap<>();
            for (Plank p : planks) {
                twins.put(p, p.copy());
                w.planks.add(twins.get(p));
            }
            for (Person p : people) w.people.add(p.copy());
            for (int i = 0; i < 4; i++) {
                w.spooks.get(i).room = spooks.get(i).room;
                w.spooks.get(i).crossings = spooks.get(i).crossings;
                for (Plank p : spooks.get(i).crossed) w.spooks.get(i).crossed.add(twins.get(p));
            }
            return w;
        }

        int distance(int from, int to) {
            int[] row = new int[10];
            Arrays.fill(row, NONE);
            row[from] = 0;
            ArrayDeque<Integer> queue = new ArrayDeque<>(List.of(from));
            while (!queue.isEmpty()) {
                int room = queue.poll();
                for (Plank p : planks) {
                    if (p.at(room) && row[p.from(room)] == NONE) {
                        row[p.from(room)] = row[room] + 1;
                        queue.add(p.from(room));
                    }
                }
            }
            return row[to];
        }

        int loud(Plank p, Person who) {
            int one = distance(who.room, p.one);
            int two = distance(who.room, p.two);
            if (one == NONE) return 0;
            return Math.max(0, p.creak - Math.min(one, two));
        }

        boolean watched(int room) {
            for (Person p : people) if (p.room == room && p.awake > 0) return true;
            return false;
        }

        boolean free(Spook s, Plank p) { return !s.crossed.contains(p) && !watched(p.one) && !watched(p.two); }

        int letMinutesPass(int many) {
            int rung = 0;
            for (int i = 0; i < many; i++) {
                minutes++;
                for (Person p : people) if (p.awake > 0) p.awake--;
                if (minutes % bell == 0) {
                    rung++;
                    bells++;
                    for (Spook s : spooks) s.crossed.clear();
                }
            }
            return rung;
        }

        int glideNow(Spook s, Plank p) {
            int woken = 0;
            p.creaked++;
            for (int i = 0; i < people.size(); i++) {
                Person who = people.get(i);
                if (loud(p, who) >= who.ear) {
                    if (who.awake == 0) who.woke++;
                    who.awake = wakeful;
                    woken += 1 << i;
                }
            }
            letMinutesPass(p.minutes);
            s.room = p.from(s.room);
            s.crossed.add(p);
            s.crossings++;
            return woken;
        }

        int pairsWithWay() {
            int pairs = 0;
            for (int a = 0; a < 10; a++) for (int b = 0; b < a; b++) if (distance(a, b) != NONE) pairs++;
            return pairs;
        }
    }

    /** All simple ways of a ghost, tried one by one. */
    private static final class Search {
        final World w;
        final Spook s;
        final int goal;
        final boolean[] been = new boolean[10];
        List<Integer> best;
        int bestMinutes;
        int leastCreak = NONE;

        Search(World w, Spook s, int goal) {
            this.w = w;
            this.s = s;
            this.goal = goal;
            been[s.room] = true;
            follow(s.room, new ArrayList<>(), 0, 0);
        }

        void follow(int room, List<Integer> way, int minutes, int creak) {
            if (room == goal) {
                // Ways are tried in the order of their boards' numbers, so the first of the same is the lowest.
                if (best == null || minutes < bestMinutes || minutes == bestMinutes && way.size() < best.size()) {
                    best = new ArrayList<>(way);
                    bestMinutes = minutes;
                }
                if (leastCreak == NONE || creak < leastCreak) leastCreak = creak;
                return;
            }
            for (int i = 0; i < w.planks.size(); i++) {
                Plank p = w.planks.get(i);
                if (!p.at(room) || been[p.from(room)] || !w.free(s, p)) continue;
                been[p.from(room)] = true;
                way.add(i);
                follow(p.from(room), way, minutes + p.minutes, Math.max(creak, p.creak));
                way.remove(way.size() - 1);
                been[p.from(room)] = false;
            }
        }
    }

    private static final class Model {
        World w = new World();
        String pad = "";
        final List<World> history = new ArrayList<>();
        final World[] slots = new World[2];

        boolean room(int r) { return r >= 0 && r < 10; }
        boolean spook(int g) { return g >= 0 && g < 4; }
        boolean plank(int b) { return b >= 0 && b < w.planks.size(); }
        boolean person(int s) { return s >= 0 && s < w.people.size(); }

        void change() {
            history.add(w.copy());
            if (history.size() > 6) history.remove(0);
        }

        int set(int setting, int value) {
            if (setting != 0 && setting != 1) return BAD_VALUE;
            if (setting == 0 && (value < 10 || value > 200) || setting == 1 && (value < 0 || value > 60)) return BAD_VALUE;
            change();
            int before = setting == 0 ? w.bell : w.wakeful;
            if (setting == 0) w.bell = value; else w.wakeful = value;
            return before;
        }

        int lay(int r, int o, int creak, int minutes) {
            if (!room(r) || !room(o)) return NO_SUCH;
            if (r == o || creak < 1 || creak > 9 || minutes < 1 || minutes > 9) return BAD_VALUE;
            if (w.planks.size() == 20) return TOO_MANY;
            change();
            w.planks.add(new Plank(r, o, creak, minutes));
            return w.planks.size() - 1;
        }

        int read() {
            if (!TEXT.matcher(pad).matches()) return BAD_TEXT;
            String[] parts = pad.split(";");
            if (w.planks.size() + parts.length > 20) return TOO_MANY;
            change();
            for (String part : parts) {
                w.planks.add(new Plank(part.charAt(0) - 'a', part.charAt(1) - 'a', part.charAt(2) - '0', part.charAt(3) - '0'));
            }
            pad = "";
            return w.planks.size();
        }

        int takeUp(int b) {
            if (!plank(b)) return NO_SUCH;
            change();
            Plank p = w.planks.remove(b);
            for (Spook s : w.spooks) s.crossed.remove(p);
            return w.planks.size();
        }

        int sleeper(int r, int ear) {
            if (!room(r)) return NO_SUCH;
            if (ear < 1 || ear > 9) return BAD_VALUE;
            if (w.people.size() == 5) return TOO_MANY;
            change();
            Person p = new Person();
            p.room = r;
            p.ear = ear;
            w.people.add(p);
            return w.people.size() - 1;
        }

        int put(int g, int r) {
            if (!spook(g) || !room(r)) return NO_SUCH;
            change();
            int before = w.spooks.get(g).room;
            w.spooks.get(g).room = r;
            return before;
        }

        int glide(int g, int b) {
            if (!spook(g) || !plank(b)) return NO_SUCH;
            Spook s = w.spooks.get(g);
            if (!w.planks.get(b).at(s.room) || !w.free(s, w.planks.get(b))) return NOT_POSSIBLE;
            change();
            return w.glideNow(w.spooks.get(g), w.planks.get(b));
        }

        int go(int g, int r) {
            if (!spook(g) || !room(r)) return NO_SUCH;
            Search found = new Search(w, w.spooks.get(g), r);
            if (found.best == null) return NOT_POSSIBLE;
            change();
            for (int b : found.best) {
                if (!w.free(w.spooks.get(g), w.planks.get(b))) break;
                w.glideNow(w.spooks.get(g), w.planks.get(b));
            }
            return w.spooks.get(g).room;
        }

        int pass(int minutes) {
            if (minutes < 1 || minutes > 200) return BAD_VALUE;
            if (w.minutes + minutes > 99999) return TOO_MANY;
            change();
            return w.letMinutesPass(minutes);
        }

        int board(int b, int what) {
            if (!plank(b)) return NO_SUCH;
            Plank p = w.planks.get(b);
            int crossed = 0, free = 0;
            for (int g = 0; g < 4; g++) {
                if (w.spooks.get(g).crossed.contains(p)) crossed += 1 << g;
                if (w.free(w.spooks.get(g), p)) free += 1 << g;
            }
            int[] all = {p.one, p.two, p.creak, p.minutes, crossed, free, p.creaked};
            return what < 0 || what > 6 ? BAD_VALUE : all[what];
        }

        int ghost(int g, int what) {
            if (!spook(g)) return NO_SUCH;
            Spook s = w.spooks.get(g);
            int crossed = 0, free = 0, rooms = 0;
            for (int b = 0; b < w.planks.size(); b++) {
                Plank p = w.planks.get(b);
                if (s.crossed.contains(p)) crossed += 1 << b;
                if (p.at(s.room) && w.free(s, p)) free += 1 << b;
            }
            if (what == 3) for (int r = 0; r < 10; r++) if (new Search(w, s, r).best != null) rooms += 1 << r;
            int[] all = {s.room, crossed, free, rooms, s.crossings};
            return what < 0 || what > 4 ? BAD_VALUE : all[what];
        }

        int sleeperOf(int i, int what) {
            if (!person(i)) return NO_SUCH;
            Person p = w.people.get(i);
            int wakes = 0;
            for (int b = 0; b < w.planks.size(); b++) if (w.loud(w.planks.get(b), p) >= p.ear) wakes += 1 << b;
            int[] all = {p.room, p.ear, p.awake, p.woke, wakes};
            return what < 0 || what > 4 ? BAD_VALUE : all[what];
        }

        int loudness(int b, int i) { return plank(b) && person(i) ? w.loud(w.planks.get(b), w.people.get(i)) : NO_SUCH; }

        int far(int r, int o) { return room(r) && room(o) ? w.distance(r, o) : NO_SUCH; }

        int count(int what) {
            int awake = 0, rooms = 0, toBell = 1;
            for (int i = 0; i < w.people.size(); i++) if (w.people.get(i).awake > 0) awake += 1 << i;
            for (int r = 0; r < 10; r++) if (w.watched(r)) rooms += 1 << r;
            while ((w.minutes + toBell) % w.bell != 0) toBell++;
            int[] all = {w.bell, w.wakeful, w.minutes, w.planks.size(), w.people.size(), awake, rooms, w.bells, toBell,
                pad.length(), history.size()};
            return what < 0 || what > 10 ? BAD_VALUE : all[what];
        }

        int soonest(int g, int r, int what) {
            if (!spook(g) || !room(r)) return NO_SUCH;
            if (what < 0) return BAD_VALUE;
            Search found = new Search(w, w.spooks.get(g), r);
            if (found.best == null) return NONE;
            if (what < 2) return what == 0 ? found.bestMinutes : found.best.size();
            return what - 2 < found.best.size() ? found.best.get(what - 2) : NONE;
        }

        int quietest(int g, int r) {
            if (!spook(g) || !room(r)) return NO_SUCH;
            return new Search(w, w.spooks.get(g), r).leastCreak;
        }

        List<Plank> left(Spook s) {
            List<Plank> left = new ArrayList<>(w.planks);
            left.removeAll(s.crossed);
            return left;
        }

        int reason(int g) {
            if (!spook(g)) return NO_SUCH;
            Spook s = w.spooks.get(g);
            List<Plank> left = left(s);
            if (left.isEmpty()) return 1;
            World only = new World();
            only.planks = left;
            int[] ends = new int[10];
            for (Plank p : left) {
                ends[p.one]++;
                ends[p.two]++;
            }
            if (ends[s.room] == 0) return 2;
            int odd = 0;
            for (int r = 0; r < 10; r++) {
                if (ends[r] > 0 && only.distance(s.room, r) == NONE) return 3;
            }
            for (int r = 0; r < 10; r++) odd += ends[r] % 2;
            if (odd > 2) return 4;
            return odd == 2 && ends[s.room] % 2 == 0 ? 5 : 0;
        }

        /** Tries every order; null if there is none. It counts its tries, for there can be very many. */
        List<Integer> firstTrail(int room, List<Plank> left, List<Integer> row, int[] tries) {
            if (left.isEmpty()) return row;
            if (++tries[0] > MOST_TRIES) return null;
            for (Plank p : new ArrayList<>(left)) {
                if (!p.at(room)) continue;
                int place = left.indexOf(p);
                left.remove(place);
                row.add(w.planks.indexOf(p));
                if (firstTrail(p.from(room), left, row, tries) != null) return row;
                row.remove(row.size() - 1);
                left.add(place, p);
            }
            return null;
        }

        /** Integer.MIN_VALUE if the tries were too many to know. */
        int trail(int g, int step) {
            if (!spook(g) || step < 0) return NO_SUCH;
            if (reason(g) == 1) return NOT_POSSIBLE;
            Spook s = w.spooks.get(g);
            int[] tries = {0};
            List<Integer> row = firstTrail(s.room, left(s), new ArrayList<>(), tries);
            if (row == null) return tries[0] > MOST_TRIES && reason(g) == 0 ? Integer.MIN_VALUE : NOT_POSSIBLE;
            return step < row.size() ? row.get(step) : NONE;
        }

        int worstGap(int what) {
            if (what != 0 && what != 1) return BAD_VALUE;
            int worst = NONE, most = 0, now = w.pairsWithWay();
            for (int b = 0; b < w.planks.size(); b++) {
                World without = new World();
                without.planks = new ArrayList<>(w.planks);
                without.planks.remove(b);
                int pairs = now - without.pairsWithWay();
                if (pairs > most) {
                    most = pairs;
                    worst = b;
                }
            }
            return most == 0 ? NONE : what == 0 ? worst : most;
        }

        int write(long characters) {
            String text = "";
            for (int i = 7; i >= 0; i--) {
                int code = (int) (characters >> 8 * i) & 255;
                if (code == 0 && text.isEmpty()) continue;
                if (code < 33 || code > 126) return BAD_VALUE;
                text += (char) code;
            }
            if (text.isEmpty()) return BAD_VALUE;
            if (pad.length() + text.length() > 60) return TOO_MANY;
            pad += text;
            return pad.length();
        }

        int wipe() {
            int before = pad.length();
            pad = "";
            return before;
        }

        int fault() {
            for (int end = 1; end <= pad.length(); end++) {
                Matcher start = TEXT.matcher(pad.substring(0, end));
                if (!start.matches() && !start.hitEnd()) return end - 1;
            }
            return TEXT.matcher(pad).matches() ? NONE : pad.length();
        }

        int undo() {
            if (history.isEmpty()) return NOT_POSSIBLE;
            w = history.remove(history.size() - 1);
            return history.size();
        }

        int save(int slot) {
            if (slot != 0 && slot != 1) return BAD_VALUE;
            slots[slot] = w.copy();
            return w.planks.size();
        }

        int restore(int slot) {
            if (slot != 0 && slot != 1) return BAD_VALUE;
            if (slots[slot] == null) return NOT_POSSIBLE;
            change();
            w = slots[slot].copy();
            return w.planks.size();
        }
    }

    /** One run of calls on a new object; each run has rooms, boards and ears of its own liking. */
    private static final class Run {
        final CreakingGhosts x = new CreakingGhosts();
        final Model m = new Model();
        final int number;
        final Random random;
        final int rooms, fewBoards, leastEar;
        int wrong, unknown;

        Run(int number) {
            this.number = number;
            random = new Random(7919L * number + 1);
            rooms = 2 + below(9);
            fewBoards = 3 + below(18);
            leastEar = 1 + below(8);
        }

        int below(int most) {
            return random.nextInt(most);
        }

        boolean oneOf(int many) {
            return below(many) == 0;
        }

        /** Mostly a number that there is, now and then one that there is not. */
        int near(int many) {
            int[] none = {-1, many, many + 1, -33, 32, Integer.MAX_VALUE, Integer.MIN_VALUE};
            return oneOf(25) || many == 0 ? none[below(none.length)] : below(many);
        }

        int room() {
            return oneOf(25) ? near(10) : below(rooms);
        }

        int within(int least, int most) {
            if (oneOf(20)) return oneOf(2) ? least - 1 : most + 1;
            return least + below(most - least + 1);
        }

        /** Mostly a board at the room of the ghost. */
        int boardFor(int g) {
            int many = m.w.planks.size();
            int b = near(many);
            if (!m.spook(g) || !m.plank(b) || oneOf(8)) return b;
            for (int i = 0; i < many; i++) {
                if (m.w.planks.get((b + i) % many).at(m.w.spooks.get(g).room)) return (b + i) % many;
            }
            return b;
        }

        /** Mostly what goes on with the text of the pad. */
        long characters() {
            if (oneOf(12)) return random.nextLong();
            long all = 0;
            int length = 1 + below(8);
            for (int i = 0; i < length; i++) {
                int place = oneOf(40) ? below(5) : (m.pad.length() + i) % 5;
                int sign = place < 2 ? 'a' + below(oneOf(30) ? 12 : rooms) : place < 4 ? '1' + below(9) : ';';
                all = all << 8 | sign;
            }
            return all;
        }

        void due(String call, int got, int want) {
            if (want == Integer.MIN_VALUE) {
                unknown++;
            } else if (got != want && wrong++ < 5) {
                System.out.println("run " + number + ": " + call + " answered " + got + ", due is " + want);
            }
        }

        void layOrTakeUp() {
            if (m.w.planks.size() >= fewBoards && !oneOf(4)) {
                int b = near(m.w.planks.size());
                due("takeUp(" + b + ")", x.takeUp(b), m.takeUp(b));
            } else {
                int r = room(), o = room(), c = within(1, 9), t = within(1, 9);
                due("lay(" + r + ", " + o + ", " + c + ", " + t + ")", x.lay(r, o, c, t), m.lay(r, o, c, t));
            }
        }

        void move() {
            int g = near(4), r = room(), b = boardFor(g), kind = below(8);
            if (kind == 0) due("put(" + g + ", " + r + ")", x.put(g, r), m.put(g, r));
            else if (kind < 6) due("glide(" + g + ", " + b + ")", x.glide(g, b), m.glide(g, b));
            else due("go(" + g + ", " + r + ")", x.go(g, r), m.go(g, r));
        }

        void changeClockOrSleepers() {
            int kind = below(3), setting = near(2), r = room(), ear = within(leastEar, 9);
            int value = setting == BELL_SETTING ? within(10, 200) : within(0, oneOf(2) ? 60 : 5);
            int minutes = within(1, oneOf(4) ? 200 : 15);
            if (kind == 0) due("set(" + setting + ", " + value + ")", x.set(setting, value), m.set(setting, value));
            if (kind == 1) due("sleeper(" + r + ", " + ear + ")", x.sleeper(r, ear), m.sleeper(r, ear));
            if (kind == 2) due("pass(" + minutes + ")", x.pass(minutes), m.pass(minutes));
        }

        void text() {
            int kind = below(10);
            long characters = characters();
            if (kind < 6) due("write(" + characters + ")", x.write(characters), m.write(characters));
            else if (kind < 8) due("fault()", x.fault(), m.fault());
            else if (kind < 9 || m.fault() == NONE) due("read()", x.read(), m.read());
            else due("wipe()", x.wipe(), m.wipe());
        }

        void goBack() {
            int slot = near(2), kind = below(5);
            if (kind < 3) due("undo()", x.undo(), m.undo());
            else if (kind == 3) due("save(" + slot + ")", x.save(slot), m.save(slot));
            else due("restore(" + slot + ")", x.restore(slot), m.restore(slot));
        }

        void askWhatThereIs() {
            int g = near(4), r = room(), o = room(), b = near(m.w.planks.size()), i = near(m.w.people.size());
            int what = oneOf(3) ? near(11) : below(5);
            switch (below(6)) {
                case 0: due("board(" + b + ", " + what + ")", x.board(b, what), m.board(b, what)); break;
                case 1: due("ghost(" + g + ", " + what + ")", x.ghost(g, what), m.ghost(g, what)); break;
                case 2: due("sleeperOf(" + i + ", " + what + ")", x.sleeperOf(i, what), m.sleeperOf(i, what)); break;
                case 3: due("loudness(" + b + ", " + i + ")", x.loudness(b, i), m.loudness(b, i)); break;
                case 4: due("far(" + r + ", " + o + ")", x.far(r, o), m.far(r, o)); break;
                default: due("count(" + what + ")", x.count(what), m.count(what)); break;
            }
        }

        void askWhatIf() {
            int g = near(4), r = room(), what = oneOf(3) ? near(11) : below(4), gap = near(2);
            switch (below(5)) {
                case 0: due("soonest(" + g + ", " + r + ", " + what + ")", x.soonest(g, r, what), m.soonest(g, r, what)); break;
                case 1: due("quietest(" + g + ", " + r + ")", x.quietest(g, r), m.quietest(g, r)); break;
                case 2: due("reason(" + g + ")", x.reason(g), m.reason(g)); break;
                case 3: due("trail(" + g + ", " + what + ")", x.trail(g, what), m.trail(g, what)); break;
                default: due("worstGap(" + gap + ")", x.worstGap(gap), m.worstGap(gap)); break;
            }
        }

        void callOnce() {
            int kind = below(100);
            if (kind < 10) layOrTakeUp();
            else if (kind < 35) move();
            else if (kind < 43) changeClockOrSleepers();
            else if (kind < 55) text();
            else if (kind < 61) goBack();
            else if (kind < 82) askWhatThereIs();
            else askWhatIf();
        }
    }

    public static void main(String[] args) {
        int wrong = 0, unknown = 0;
        for (int number = 0; number < RUNS; number++) {
            Run run = new Run(number);
            for (int i = 0; i < CALLS && run.wrong == 0; i++) run.callOnce();
            wrong += run.wrong;
            unknown += run.unknown;
        }
        System.out.println(RUNS + " runs of " + CALLS + " calls: " + wrong + " runs went wrong, " + unknown + " trails were too long to try");
        if (wrong != 0) System.exit(1);
    }
}
