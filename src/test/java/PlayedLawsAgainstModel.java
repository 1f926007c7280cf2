import java.math.BigInteger;
import java.util.ArrayDeque;
import java.util.ArrayList;
import java.util.Deque;
import java.util.List;
import java.util.Random;
import java.util.regex.Matcher;
import java.util.regex.Pattern;

/**
 * Long runs of drawn calls, each answer held against a second, slow reading of the document:
 * it tries every row, every set and every case, without a short cut, and shares no code with the class.
 */
public final class PlayedLawsAgainstModel {
    private static final int BAD = -1, NO = -2, FULL = -3, NONE = -4;
    private static final int[] WILD = {
        -1, -2, 7, 8, 9, 10, 11, 12, 31, 32, 40, 41, 126, 127, 255, 256, 9999, 10000,
        1 << 30, Integer.MAX_VALUE, Integer.MIN_VALUE, Integer.MIN_VALUE + 1
    };
    private static final int RUNS = 400, CALLS = 500;

    private static int wrong = 0;

    private PlayedLawsAgainstModel() {
    }

    public static void main(String[] args) {
        for (int seed = 0; seed < RUNS && wrong < 20; seed++) new Run(seed).go();
        System.out.println(wrong == 0 ? "the class answers as the model" : wrong + " answers are not the model's");
        if (wrong != 0) System.exit(1);
    }

    // ---------------------------------------------------------------- the drawn runs

    private static final class Run {
        final int seed;
        final Random random;
        final PlayedLaws laws = new PlayedLaws();
        final Model model = new Model();
        int calls = 0;

        Run(int seed) {
            this.seed = seed;
            random = new Random(seed * 31L + 7);
        }

        void go() {
            while (calls < CALLS && wrong < 20) {
                int draw = random.nextInt(100);
                if (draw < 2) tell(drawnText());
                else if (draw < 4) letters();
                else if (draw < 7) look();
                else one(calm() ? random.nextInt(26) : 26);
            }
        }

        boolean calm() {
            return random.nextInt(60) != 0;
        }

        void due(String call, int got, int want) {
            calls++;
            if (got == want) return;
            wrong++;
            System.out.println("run " + seed + ", call " + calls + ": " + call + " answered " + got + ", the model says " + want);
        }

        void tell(String text) {
            if (calls + text.length() + 5 > CALLS) return;
            due("wipe", laws.wipe(), model.wipe());
            for (char letter : text.toCharArray()) due("write " + letter, laws.write(letter), model.write(letter));
            due("fault of " + text, laws.fault(), model.fault());
            due("lay of " + text, laws.lay(), model.lay());
        }

        void letters() {
            for (int i = random.nextInt(4); i >= 0; i--) {
                int letter = random.nextInt(9) == 0 ? wild() : "shbg0123,;".charAt(random.nextInt(10));
                due("write " + letter, laws.write(letter), model.write(letter));
            }
            due("fault", laws.fault(), model.fault());
        }

        /** All that can be looked at without a search. */
        void look() {
            if (calls + 190 > CALLS) return;
            for (int what = -1; what <= 12; what++) due("count " + what, laws.count(what), model.count(what));
            for (int i = 0; i < 7; i++) {
                for (int what = 0; what < 5; what++) {
                    due("scene " + i + " " + what, laws.scene(i, what), model.scene(i, what));
                    due("seat " + i + " " + what, laws.seat(i, what), model.seat(i, what));
                    if (what < 3) due("tonight " + i + " " + what, laws.tonight(i, what), model.tonight(i, what));
                }
            }
            due("passes 0", laws.passes(0), model.passes(0));
            due("passes 1", laws.passes(1), model.passes(1));
        }

        int wild() {
            return WILD[random.nextInt(WILD.length)];
        }

        int pick(int bound) {
            return random.nextInt(25) == 0 ? wild() : random.nextInt(bound);
        }

        void one(int call) {
            int a = pick(7), b = pick(7), what = pick(2);
            switch (call) {
                case 0: case 1: due("add " + a, laws.add(a), model.add(a)); break;
                case 2: due("cut " + a, laws.cut(a), model.cut(a)); break;
                case 3: case 4: case 5: due("play", laws.play(), model.play()); break;
                case 6: due("swap " + a + " " + b, laws.swap(a, b), model.swap(a, b)); break;
                case 7: due("hire " + a, laws.hire(a), model.hire(a)); break;
                case 8: case 9: due("undo", laws.undo(), model.undo()); break;
                case 10: case 11: soonest(); break;
                case 12: { int k = pick(9) - 1; due("seating " + k, laws.seating(k), model.seating(k)); break; }
                case 13: due("claques " + what, laws.claques(what), model.claques(what)); break;
                case 14: due("falls", laws.falls(), model.falls()); break;
                case 15: due("run", laws.run(), model.run()); break;
                case 16: due("most " + what, laws.most(what), model.most(what)); break;
                case 17: { int n = pick(8); due("see " + a + " " + n, laws.see(a, n), model.see(a, n)); break; }
                case 18: case 19: due("fits " + a + " " + what, laws.fits(a, what), model.fits(a, what)); break;
                case 20: case 21: coughs(); break;
                case 22: case 23: season(); break;
                case 24: due("keep", laws.keep(), model.keep()); break;
                case 25: due("back", laws.back(), model.back()); break;
                default: due("forget", laws.forget(), model.forget()); break;
            }
        }

        void soonest() {
            int set = 0;
            for (int i = random.nextInt(3); i > 0; i--) set |= 1 << random.nextInt(5);
            if (random.nextInt(25) == 0) set = wild();
            for (int i = 0; i < 3; i++) {
                int k = i == 0 ? 0 : pick(8);
                due("soonest " + set + " " + k, laws.soonest(set, k), model.soonest(set, k));
            }
        }

        void coughs() {
            int x = pick(11);
            due("coughs " + x + " 0", laws.coughs(x, 0), model.coughs(x, 0));
            due("coughs " + x + " 1", laws.coughs(x, 1), model.coughs(x, 1));
            int part = wild();
            due("coughs " + x + " " + part, laws.coughs(x, part), model.coughs(x, part));
        }

        void season() {
            int z = pick(10000), n = pick(40) + 1, what = pick(2);
            due("season " + z + " " + n + " " + what, laws.season(z, n, what), model.season(z, n, what));
        }

        /** Mostly a house that can pass a night; now and then a text with a fault. */
        String drawnText() {
            StringBuilder text = new StringBuilder();
            int scenes = 1 + random.nextInt(7), seats = 1 + random.nextInt(7);
            int longest = 1 + random.nextInt(20), least = random.nextInt(31), most = 30;
            if (random.nextBoolean()) {
                // all patiences about as high as the boredom: who leaves then takes others along
                longest = 2 + random.nextInt(4);
                least = Math.max(0, longest * scenes / 2 - 3);
                most = Math.min(30, least + 6);
            }
            int plain = random.nextInt(4);
            for (int i = 0; i < scenes; i++) {
                text.append('s').append(random.nextInt(4)).append(',').append(1 + random.nextInt(longest));
                text.append(',').append(random.nextInt(9)).append(';');
                if (i == 3 && random.nextBoolean()) bill(text, i + 1);
            }
            for (int i = 0; i < seats; i++) {
                text.append('h').append(plain == 0 ? 0 : random.nextInt(4)).append(',').append(random.nextInt(4));
                text.append(',').append(least + random.nextInt(most + 1 - least)).append(';');
            }
            if (random.nextInt(8) != 0) bill(text, scenes);
            if (random.nextInt(3) != 0) text.append('g').append(random.nextInt(100)).append(';');
            if (random.nextInt(6) == 0) {
                int place = random.nextInt(text.length());
                text.setCharAt(place, "shbg0123456789,;x".charAt(random.nextInt(17)));
            }
            if (random.nextInt(12) == 0) text.deleteCharAt(random.nextInt(text.length()));
            if (random.nextInt(12) == 0) text.insert(random.nextInt(text.length()), "s0,1,0;h0,0,0;b0;b00;0");
            return text.toString();
        }

        void bill(StringBuilder text, int scenes) {
            List<Integer> left = new ArrayList<>();
            for (int i = 0; i < scenes; i++) left.add(i);
            text.append('b');
            for (int i = 1 + random.nextInt(scenes); i > 0; i--) text.append(left.remove(random.nextInt(left.size())));
            text.append(';');
        }
    }

    // ---------------------------------------------------------------- the model

    private static final class Scene {
        final int kind, minutes, clause;
        int nights = 0;

        Scene(int kind, int minutes, int clause) {
            this.kind = kind;
            this.minutes = minutes;
            this.clause = clause;
        }

        Scene twin() {
            Scene twin = new Scene(kind, minutes, clause);
            twin.nights = nights;
            return twin;
        }
    }

    private static final class Seat {
        int kind, taste, patience, bound = 0;

        Seat(int kind, int taste, int patience) {
            this.kind = kind;
            this.taste = taste;
            this.patience = patience;
        }

        Seat twin() {
            Seat twin = new Seat(kind, taste, patience);
            twin.bound = bound;
            return twin;
        }
    }

    private static final class State {
        List<Scene> scenes = new ArrayList<>();
        List<Seat> seats = new ArrayList<>();
        List<Integer> bill = new ArrayList<>();
        List<Integer> row = new ArrayList<>();
        int till = 20, played = 0, passed = 0;

        State twin() {
            State twin = new State();
            for (Scene scene : scenes) twin.scenes.add(scene.twin());
            for (Seat seat : seats) twin.seats.add(seat.twin());
            twin.bill.addAll(bill);
            twin.row.addAll(row);
            twin.till = till;
            twin.played = played;
            twin.passed = passed;
            return twin;
        }

        int hired() {
            int hired = 0;
            for (Seat seat : seats) if (seat.kind == 3) hired++;
            return hired;
        }

        int bonds() {
            int bonds = 0;
            for (Seat seat : seats) for (int c = 0; c < 8; c++) if ((seat.bound & 1 << c) != 0) bonds++;
            return bonds;
        }

        boolean playable() {
            return !bill.isEmpty() && till >= hired();
        }
    }

    /** One night of a state, found from the start. */
    private static final class Evening {
        final int[] boredom, leftBehind, seenBits;
        final boolean[] asleep;
        final State state;
        int staying;

        Evening(State state, int coughing) {
            this.state = state;
            int seats = state.seats.size();
            boredom = new int[seats];
            leftBehind = new int[seats];
            seenBits = new int[seats];
            asleep = new boolean[seats];
            for (int place = 0; place < state.bill.size(); place++) {
                for (int h = 0; h < seats; h++) {
                    if (leftBehind[h] == 0 && !asleep[h]) seenBits[h] |= 1 << place;
                }
                if (place == 0) {
                    for (int h = 0; h < seats; h++) if ((coughing >> h & 1) == 1) leftBehind[h] = 1;
                }
                Scene scene = state.scenes.get(state.bill.get(place));
                for (int at = 0; at < seats; at++) sit(at, scene, place + 1);
            }
            for (int left : leftBehind) if (left == 0) staying++;
        }

        private void sit(int at, Scene scene, int number) {
            int h = state.row.get(at);
            if (leftBehind[h] != 0) return;
            Seat seat = state.seats.get(h);
            if (seat.taste == scene.kind) {
                boredom[h] -= scene.minutes / 2;
                if (boredom[h] < 0) boredom[h] = 0;
            } else {
                int nights = scene.nights > 3 ? 3 : scene.nights;
                int more = scene.minutes + 2 * nights;
                if (seat.kind == 2) more += more;
                boredom[h] += more;
            }
            if (seat.kind == 1) asleep[h] = boredom[h] > seat.patience;
            if (seat.kind == 0 || seat.kind == 2) {
                int bears = seat.patience;
                if (at > 0 && leftBehind[state.row.get(at - 1)] != 0) bears -= 3;
                if (at + 1 < state.row.size() && leftBehind[state.row.get(at + 1)] != 0) bears -= 3;
                if (bears < 0) bears = 0;
                if (boredom[h] > bears) leftBehind[h] = number;
            }
        }

        boolean passes() {
            return !state.bill.isEmpty() && staying * 3 >= state.seats.size() * 2;
        }

        void bindIfPassed() {
            if (!passes()) return;
            for (int place = 0; place < state.bill.size(); place++) {
                Scene scene = state.scenes.get(state.bill.get(place));
                if (scene.clause == 8) continue;
                for (int h = 0; h < state.seats.size(); h++) {
                    Seat seat = state.seats.get(h);
                    if ((seenBits[h] >> place & 1) == 0) continue;
                    if (scene.kind == 3) seat.bound &= ~(1 << scene.clause);
                    else if (scene.kind != 1 || seat.taste == 1) seat.bound |= 1 << scene.clause;
                }
            }
        }

        void close() {
            bindIfPassed();
            state.till -= state.hired();
            for (int h = 0; h < state.seats.size(); h++) {
                if (leftBehind[h] == 0 && state.seats.get(h).kind != 3) state.till++;
            }
            if (state.till > 999) state.till = 999;
            state.played++;
            if (passes()) state.passed++;
            for (int s : state.bill) state.scenes.get(s).nights++;
        }
    }

    private static final class Model {
        StringBuilder text = new StringBuilder(
            "s0,8,0;s2,6,1;s1,4,8;s3,12,2;s0,10,3;h0,2,9;h1,0,6;h0,1,14;h2,3,20;h0,0,5;h0,2,11;b01423;g25;");
        State now;
        State told;
        final Deque<State> past = new ArrayDeque<>();
        final Deque<State> kept = new ArrayDeque<>();
        final List<int[]> seen = new ArrayList<>();

        Model() {
            lay();
            text.setLength(0);
        }

        int write(int letter) {
            if (letter < 32 || letter > 126) return BAD;
            if (text.length() == 200) return FULL;
            text.append((char) letter);
            return text.length();
        }

        int wipe() {
            int length = text.length();
            text.setLength(0);
            return length;
        }

        int fault() {
            told = new State();
            Pattern item = Pattern.compile(
                "s(\\d\\d?),(\\d\\d?),(\\d\\d?);|h(\\d\\d?),(\\d\\d?),(\\d\\d?);|b(\\d+);|g(\\d\\d?);");
            Matcher matcher = item.matcher(text);
            int from = 0;
            while (from < text.length()) {
                matcher.region(from, text.length());
                if (!matcher.lookingAt() || !takes(matcher)) return from;
                from = matcher.end();
            }
            return NONE;
        }

        private boolean takes(Matcher m) {
            if (m.group(1) != null) {
                int k = Integer.parseInt(m.group(1)), minutes = Integer.parseInt(m.group(2)), c = Integer.parseInt(m.group(3));
                if (k > 3 || minutes < 1 || minutes > 20 || c > 8 || told.scenes.size() == 7) return false;
                told.scenes.add(new Scene(k, minutes, c));
            } else if (m.group(4) != null) {
                int k = Integer.parseInt(m.group(4)), t = Integer.parseInt(m.group(5)), p = Integer.parseInt(m.group(6));
                if (k > 3 || t > 3 || p > 30 || told.seats.size() == 7) return false;
                told.row.add(told.seats.size());
                told.seats.add(new Seat(k, t, p));
            } else if (m.group(7) != null) {
                List<Integer> bill = new ArrayList<>();
                for (char figure : m.group(7).toCharArray()) {
                    int s = figure - '0';
                    if (s >= told.scenes.size() || bill.contains(s)) return false;
                    bill.add(s);
                }
                told.bill = bill;
            } else {
                told.till = Integer.parseInt(m.group(8));
            }
            return true;
        }

        int lay() {
            if (fault() != NONE || told.scenes.isEmpty() || told.seats.isEmpty()) return NO;
            now = told.twin();
            past.clear();
            kept.clear();
            seen.clear();
            return now.seats.size();
        }

        boolean noScene(int s) {
            return s < 0 || s >= now.scenes.size();
        }

        boolean noSeat(int h) {
            return h < 0 || h >= now.seats.size();
        }

        int scene(int s, int what) {
            if (noScene(s) || what < 0 || what > 4) return BAD;
            Scene scene = now.scenes.get(s);
            if (what == 0) return scene.kind;
            if (what == 1) return scene.minutes;
            if (what == 2) return scene.clause == 8 ? NONE : scene.clause;
            if (what == 4) return scene.nights;
            return now.bill.contains(s) ? now.bill.indexOf(s) : NONE;
        }

        int seat(int h, int what) {
            if (noSeat(h) || what < 0 || what > 4) return BAD;
            Seat seat = now.seats.get(h);
            return new int[] {seat.kind, seat.taste, seat.patience, now.row.indexOf(h), seat.bound}[what];
        }

        int tonight(int h, int what) {
            if (noSeat(h) || what < 0 || what > 2) return BAD;
            Evening evening = new Evening(now, 0);
            if (what == 0) return evening.leftBehind[h] == 0 ? NONE : evening.leftBehind[h];
            return what == 1 ? evening.seenBits[h] : evening.boredom[h];
        }

        int passes(int what) {
            if (what != 0 && what != 1) return BAD;
            Evening evening = new Evening(now, 0);
            return what == 0 ? evening.staying : evening.passes() ? 1 : 0;
        }

        private void remember() {
            past.addLast(now.twin());
            if (past.size() > 8) past.removeFirst();
        }

        int add(int s) {
            if (noScene(s)) return BAD;
            if (now.bill.contains(s)) return NO;
            remember();
            now.bill.add(s);
            return now.bill.size() - 1;
        }

        int cut(int s) {
            if (noScene(s)) return BAD;
            if (!now.bill.contains(s)) return NO;
            remember();
            now.bill.remove(Integer.valueOf(s));
            return now.bill.size();
        }

        int play() {
            if (!now.playable()) return NO;
            remember();
            Evening evening = new Evening(now, 0);
            evening.close();
            return evening.passes() ? 1 : 0;
        }

        private static void change(State state, int h, int g) {
            int one = state.row.indexOf(h), other = state.row.indexOf(g);
            state.row.set(one, g);
            state.row.set(other, h);
        }

        int swap(int h, int g) {
            if (noSeat(h) || noSeat(g) || h == g) return BAD;
            remember();
            change(now, h, g);
            return now.row.indexOf(h);
        }

        int hire(int h) {
            if (noSeat(h)) return BAD;
            if (now.seats.get(h).kind == 3 || now.till < 5) return NO;
            remember();
            now.seats.get(h).kind = 3;
            now.till -= 5;
            return now.till;
        }

        int undo() {
            if (past.isEmpty()) return NO;
            now = past.removeLast();
            return past.size();
        }

        // every row there is, in the order of the document
        private static void rows(List<Integer> row, int of, boolean whole, List<List<Integer>> out) {
            if (!row.isEmpty() && (!whole || row.size() == of)) out.add(new ArrayList<>(row));
            for (int i = 0; i < of; i++) {
                if (row.contains(i)) continue;
                row.add(i);
                rows(row, of, whole, out);
                row.remove(row.size() - 1);
            }
        }

        int soonest(int set, int k) {
            if (set < 0 || set > 255 || k < 0 || k > 7) return BAD;
            List<List<Integer>> all = new ArrayList<>();
            rows(new ArrayList<>(), now.scenes.size(), false, all);
            List<Integer> best = null;
            int fewest = Integer.MAX_VALUE;
            State other = now.twin();
            for (List<Integer> row : all) {
                int has = 0, minutes = 0;
                for (int s : row) {
                    Scene scene = now.scenes.get(s);
                    minutes += scene.minutes;
                    if (scene.kind != 3 && scene.clause < 8) has |= 1 << scene.clause;
                }
                if ((set & ~has) != 0 || minutes >= fewest) continue;
                other.bill = row;
                if (!new Evening(other, 0).passes()) continue;
                best = row;
                fewest = minutes;
            }
            if (best == null) return NONE;
            if (k == 0) return fewest;
            return k > best.size() ? NONE : best.get(k - 1);
        }

        int seating(int k) {
            if (k < -1 || k >= now.seats.size()) return BAD;
            List<List<Integer>> all = new ArrayList<>();
            rows(new ArrayList<>(), now.seats.size(), true, all);
            List<Integer> best = null;
            int most = -1;
            State other = now.twin();
            for (List<Integer> row : all) {
                other.row = row;
                int staying = new Evening(other, 0).staying;
                if (staying <= most) continue;
                most = staying;
                best = row;
            }
            return k == -1 ? most : best.get(k);
        }

        int claques(int what) {
            if (what != 0 && what != 1) return BAD;
            for (int size = 0; size <= now.seats.size(); size++) {
                for (int set = 0; set < 1 << now.seats.size(); set++) {
                    if (Integer.bitCount(set) != size) continue;
                    State other = now.twin();
                    for (int h = 0; h < now.seats.size(); h++) if ((set >> h & 1) == 1) other.seats.get(h).kind = 3;
                    if (new Evening(other, 0).passes()) return what == 0 ? size : set;
                }
            }
            return NONE;
        }

        int falls() {
            if (!new Evening(now, 0).passes()) return NONE;
            for (int s = 0; s < now.scenes.size(); s++) {
                if (!now.bill.contains(s)) continue;
                State other = now.twin();
                other.bill.remove(Integer.valueOf(s));
                if (!new Evening(other, 0).passes()) return s;
            }
            return NONE;
        }

        int run() {
            State other = now.twin();
            int nights = 0;
            while (nights < 30) {
                Evening evening = new Evening(other, 0);
                if (!evening.passes()) break;
                evening.close();
                nights++;
            }
            return nights;
        }

        int most(int what) {
            if (what != 0 && what != 1) return BAD;
            int best = NONE, most = NONE;
            for (int s = 0; s < now.scenes.size(); s++) {
                if (now.bill.contains(s)) continue;
                for (int place = 0; place <= now.bill.size(); place++) {
                    State other = now.twin();
                    other.bill.add(place, s);
                    new Evening(other, 0).bindIfPassed();
                    if (other.bonds() <= most) continue;
                    most = other.bonds();
                    best = 10 * s + place;
                }
            }
            return what == 0 ? best : most;
        }

        int see(int h, int n) {
            if (noSeat(h) || n < 0 || n > 7) return BAD;
            if (seen.size() == 6) return FULL;
            seen.add(new int[] {h, n});
            return seen.size();
        }

        int forget() {
            int many = seen.size();
            seen.clear();
            return many;
        }

        int fits(int h, int what) {
            if (noSeat(h) || what != 0 && what != 1) return BAD;
            int bits = 0;
            for (int value = 0; value <= (what == 0 ? 30 : 3); value++) {
                State other = now.twin();
                if (what == 0) other.seats.get(h).patience = value;
                else other.seats.get(h).taste = value;
                Evening evening = new Evening(other, 0);
                boolean so = true;
                for (int[] one : seen) so &= one[0] != h || evening.leftBehind[h] == one[1];
                if (so) bits |= 1 << value;
            }
            return bits;
        }

        int coughs(int x, int part) {
            if (x < 0 || x > 10 || part != 0 && part != 1) return BAD;
            BigInteger above = BigInteger.ZERO, below = BigInteger.TEN.pow(now.seats.size());
            for (int set = 0; set < 1 << now.seats.size(); set++) {
                BigInteger cases = BigInteger.ONE;
                for (int h = 0; h < now.seats.size(); h++) {
                    boolean coughs = (set >> h & 1) == 1, can = now.seats.get(h).kind % 2 == 0;
                    int ofTen = can ? (coughs ? x : 10 - x) : coughs ? 0 : 10;
                    cases = cases.multiply(BigInteger.valueOf(ofTen));
                }
                if (cases.signum() > 0 && new Evening(now, set).passes()) above = above.add(cases);
            }
            BigInteger common = above.gcd(below);
            return (part == 0 ? above : below).divide(common).intValueExact();
        }

        int season(int z, int n, int what) {
            if (z < 0 || z > 9999 || n < 1 || n > 40 || what != 0 && what != 1) return BAD;
            State other = now.twin();
            int passing = 0;
            for (int k = 0; k < n; k++) {
                BigInteger x = BigInteger.valueOf(7919L * z + 6151L * k + 1);
                int draw = x.multiply(x).mod(BigInteger.valueOf(65521)).intValueExact();
                int s = draw / 8 % other.scenes.size(), h = draw / 8 % other.seats.size(), g = draw / 64 % other.seats.size();
                int deed = draw % 8;
                if (deed < 2) {
                    if (!other.bill.contains(s)) other.bill.add(s);
                } else if (deed == 2) {
                    other.bill.remove(Integer.valueOf(s));
                } else if (deed == 3) {
                    if (h != g) change(other, h, g);
                } else if (deed == 4) {
                    if (other.seats.get(h).kind != 3 && other.till >= 5) {
                        other.seats.get(h).kind = 3;
                        other.till -= 5;
                    }
                } else if (other.playable()) {
                    Evening evening = new Evening(other, 0);
                    if (evening.passes()) passing++;
                    evening.close();
                }
            }
            return what == 0 ? passing : other.bonds();
        }

        int keep() {
            if (kept.size() == 2) return FULL;
            kept.addLast(now.twin());
            return kept.size();
        }

        int back() {
            if (kept.isEmpty()) return NO;
            now = kept.removeLast();
            past.clear();
            return kept.size();
        }

        int count(int what) {
            switch (what) {
                case 0: return now.scenes.size();
                case 1: return now.seats.size();
                case 2: return now.bill.size();
                case 3: return now.till;
                case 4: return now.played;
                case 5: return now.passed;
                case 6: return now.hired();
                case 7: return now.bonds();
                case 8: return seen.size();
                case 9: return past.size();
                case 10: return kept.size();
                case 11: return text.length();
                default: return BAD;
            }
        }
    }
}
