import java.util.Arrays;

/** A republic whose laws are plays: each call answers as ../shared/DOC.md promises. */
public final class PlayedLaws {
    public static final int BAD = -1, NO = -2, FULL = -3, NONE = -4;

    private static final int SONG = 1, TRAGEDY = 3;
    private static final int SLEEPER = 1, CRITIC = 2, CLAQUE = 3;
    private static final int KINDS = 4, MOST_MINUTES = 20, NO_CLAUSE = 8, MOST_PATIENCE = 30;
    private static final int MOST = 7;
    private static final int MOST_LETTERS = 200, FIRST_LETTER = 32, LAST_LETTER = 126;
    private static final int TILL_UNTOLD = 20, MOST_TOLD_TILL = 99, MOST_TILL = 999, WAGE = 5;
    private static final int MOST_UNDONE = 8, MOST_KEPT = 2, MOST_SEEN = 6;
    private static final int MOST_TIRING = 3, TIRING = 2, COMPANY = 3;
    private static final int MOST_RUN = 30, MOST_Z = 9999, MOST_DRAWS = 40, TEN = 10;
    private static final int ALL_CLAUSES = 255, ALL_ROWS = 5040, TOO_LONG = MOST * MOST_MINUTES + 1;
    private static final String FIRST_HOUSE =
        "s0,8,0;s2,6,1;s1,4,8;s3,12,2;s0,10,3;h0,2,9;h1,0,6;h0,1,14;h2,3,20;h0,0,5;h0,2,11;b01423;g25;";

    private final Text text = new Text();
    private final House house = new House();
    private final Houses past = new Houses(MOST_UNDONE);
    private final Houses kept = new Houses(MOST_KEPT);
    private final Sights sights = new Sights();
    private final Night night = new Night();
    private final Shortest shortest = new Shortest();
    private final Lineup lineup = new Lineup();
    private final Outlook outlook = new Outlook();
    private final Chances chances = new Chances();
    /** Grows whenever the house changes, so that a long search is made once for each house. */
    private int stamp;

    public PlayedLaws() {
        for (int i = 0; i < FIRST_HOUSE.length(); i++) text.append(FIRST_HOUSE.charAt(i));
        if (text.read() == NONE) open(text.told);
        text.length = 0;
    }

    // ---- houses

    public int write(int letter) {
        if (!within(letter, FIRST_LETTER, LAST_LETTER)) return BAD;
        return text.append(letter) ? text.length : FULL;
    }

    public int wipe() {
        int length = text.length;
        text.length = 0;
        return length;
    }

    public int fault() {
        return text.read();
    }

    public int lay() {
        if (text.read() != NONE || text.told.scenes == 0 || text.told.seats == 0) return NO;
        open(text.told);
        return house.seats;
    }

    public int scene(int s, int what) {
        if (!house.isScene(s)) return BAD;
        switch (what) {
            case 0: return house.sceneKinds.at(s);
            case 1: return house.minutes.at(s);
            case 2: return house.clauses.at(s) == NO_CLAUSE ? NONE : house.clauses.at(s);
            case 3: return house.placeOnBill(s);
            case 4: return house.shown.at(s);
            default: return BAD;
        }
    }

    public int seat(int h, int what) {
        if (!house.isSeat(h)) return BAD;
        switch (what) {
            case 0: return house.seatKinds.at(h);
            case 1: return house.tastes.at(h);
            case 2: return house.patiences.at(h);
            case 3: return house.placeInLine(h);
            case 4: return house.bound.at(h);
            default: return BAD;
        }
    }

    public int tonight(int h, int what) {
        if (!house.isSeat(h) || !within(what, 0, 2)) return BAD;
        night.unfold(house, 0);
        switch (what) {
            case 0: return night.left.at(h) == 0 ? NONE : night.left.at(h);
            case 1: return night.seen.at(h);
            default: return night.boredom.at(h);
        }
    }

    public int passes(int what) {
        if (!within(what, 0, 1)) return BAD;
        night.unfold(house, 0);
        if (what == 0) return house.seats - night.gone;
        return night.carries(house) ? 1 : 0;
    }

    // ---- bills, nights

    public int add(int s) {
        if (!house.isScene(s)) return BAD;
        if (house.isBilled(s)) return NO;
        remember();
        house.mount(s, house.billed);
        return house.placeOnBill(s);
    }

    public int cut(int s) {
        if (!house.isScene(s)) return BAD;
        if (!house.isBilled(s)) return NO;
        remember();
        house.strike(s);
        return house.billed;
    }

    public int play() {
        if (!house.canOpen()) return NO;
        remember();
        night.unfold(house, 0);
        house.settle(night);
        return night.carries(house) ? 1 : 0;
    }

    public int swap(int h, int g) {
        if (!house.isSeat(h) || !house.isSeat(g) || h == g) return BAD;
        remember();
        house.trade(h, g);
        return house.placeInLine(h);
    }

    public int hire(int h) {
        if (!house.isSeat(h)) return BAD;
        if (!house.canEngage(h)) return NO;
        remember();
        house.engage(h);
        return house.till;
    }

    public int undo() {
        if (past.held == 0) return NO;
        past.pop(house);
        stamp++;
        return past.held;
    }

    // ---- what is best

    public int soonest(int set, int k) {
        if (!within(set, 0, ALL_CLAUSES) || !within(k, 0, MOST)) return BAD;
        shortest.find(house, set, stamp);
        if (shortest.length == 0 || k > shortest.length) return NONE;
        return k == 0 ? shortest.minutes : shortest.row.at(k - 1);
    }

    public int seating(int k) {
        if (k != -1 && !house.isSeat(k)) return BAD;
        lineup.find(house, stamp);
        return k == -1 ? lineup.staying : lineup.row.at(k);
    }

    public int claques(int what) {
        if (!within(what, 0, 1)) return BAD;
        int set = outlook.fewestClaques(house);
        if (set == NONE) return NONE;
        return what == 0 ? Integer.bitCount(set) : set;
    }

    public int falls() {
        return outlook.fatalCut(house);
    }

    public int run() {
        return outlook.nightsAhead(house);
    }

    public int most(int what) {
        if (!within(what, 0, 1)) return BAD;
        outlook.findAddition(house);
        return what == 0 ? outlook.addition : outlook.binding;
    }

    // ---- what was seen

    public int see(int h, int n) {
        if (!house.isSeat(h) || !within(n, 0, MOST)) return BAD;
        return sights.note(h, n) ? sights.noted : FULL;
    }

    public int forget() {
        int noted = sights.noted;
        sights.noted = 0;
        return noted;
    }

    public int fits(int h, int what) {
        if (!house.isSeat(h) || !within(what, 0, 1)) return BAD;
        return what == 0 ? outlook.fittingPatiences(house, sights, h) : outlook.fittingTastes(house, sights, h);
    }

    // ---- coughs, seasons

    public int coughs(int x, int part) {
        if (!within(x, 0, TEN) || !within(part, 0, 1)) return BAD;
        chances.weigh(house, x);
        return part == 0 ? chances.above : chances.below;
    }

    public int season(int z, int n, int what) {
        if (!within(z, 0, MOST_Z) || !within(n, 1, MOST_DRAWS) || !within(what, 0, 1)) return BAD;
        chances.playSeason(house, z, n);
        return what == 0 ? chances.trial.passed - house.passed : chances.trial.bindings();
    }

    public int keep() {
        if (kept.held >= MOST_KEPT) return FULL;
        kept.push(house);
        return kept.held;
    }

    public int back() {
        if (kept.held == 0) return NO;
        kept.pop(house);
        past.held = 0;
        stamp++;
        return kept.held;
    }

    public int count(int what) {
        switch (what) {
            case 0: return house.scenes;
            case 1: return house.seats;
            case 2: return house.billed;
            case 3: return house.till;
            case 4: return house.nights;
            case 5: return house.passed;
            case 6: return house.claqueurs();
            case 7: return house.bindings();
            case 8: return sights.noted;
            case 9: return past.held;
            case 10: return kept.held;
            case 11: return text.length;
            default: return BAD;
        }
    }

    private void open(House told) {
        house.copy(told);
        past.held = 0;
        kept.held = 0;
        sights.noted = 0;
        stamp++;
    }

    /** Ahead of every change that can be undone. */
    private void remember() {
        past.push(house);
        stamp++;
    }

    private static boolean within(int value, int least, int most) {
        return value >= least && value <= most;
    }

    private static boolean isIn(int set, int member) {
        return (set >> member & 1) != 0;
    }

    /** Numbers side by side. A place outside reads as 0 and takes nothing, so no index makes the machine throw. */
    private static final class Row {
        private final int[] cells;

        Row(int length) {
            cells = new int[length < 0 ? 0 : length];
        }

        int at(int place) {
            return place >= 0 && place < cells.length ? cells[place] : 0;
        }

        void put(int place, int value) {
            if (place >= 0 && place < cells.length) cells[place] = value;
        }

        /** The first place of the value among so many, or NONE. */
        int placeOf(int value, int length) {
            for (int place = 0; place < length; place++) {
                if (at(place) == value) return place;
            }
            return NONE;
        }

        void trade(int one, int other) {
            int value = at(one);
            put(one, at(other));
            put(other, value);
        }

        void insert(int place, int value, int length) {
            for (int i = length; i > place; i--) put(i, at(i - 1));
            put(place, value);
        }

        void remove(int place, int length) {
            for (int i = place; i < length - 1; i++) put(i, at(i + 1));
        }

        void clear() {
            Arrays.fill(cells, 0);
        }

        void numberThrough() {
            for (int i = 0; i < cells.length; i++) put(i, i);
        }

        void copy(Row other) {
            System.arraycopy(other.cells, 0, cells, 0, Math.min(cells.length, other.cells.length));
        }
    }

    /** The letters written, and the house that they told when last read. */
    private static final class Text {
        private final Row letters = new Row(MOST_LETTERS);
        private final House told = new House();
        private int length;
        private int spot;

        boolean append(int letter) {
            if (length >= MOST_LETTERS) return false;
            letters.put(length, letter);
            length++;
            return true;
        }

        /** The place of the first item that is not so, or NONE. */
        int read() {
            told.empty();
            spot = 0;
            for (int item = 0; item < MOST_LETTERS && spot < length; item++) {
                int from = spot;
                if (!readItem()) return from;
            }
            return NONE;
        }

        private boolean readItem() {
            switch (next()) {
                case 's': return readScene();
                case 'h': return readSeat();
                case 'b': return readBill();
                case 'g': return readTill();
                default: return false;
            }
        }

        private boolean readScene() {
            int kind = number(',', 0, KINDS - 1);
            int minutes = number(',', 1, MOST_MINUTES);
            int clause = number(';', 0, NO_CLAUSE);
            return kind >= 0 && minutes >= 0 && clause >= 0 && told.tellScene(kind, minutes, clause);
        }

        private boolean readSeat() {
            int kind = number(',', 0, KINDS - 1);
            int taste = number(',', 0, KINDS - 1);
            int patience = number(';', 0, MOST_PATIENCE);
            return kind >= 0 && taste >= 0 && patience >= 0 && told.tellSeat(kind, taste, patience);
        }

        /** Scenes one next to the other; a later bill takes the place of an earlier one. */
        private boolean readBill() {
            told.billed = 0;
            for (int i = 0; i <= MOST; i++) {
                int sign = next();
                if (sign == ';') return told.billed > 0;
                int scene = figure(sign);
                if (!told.isScene(scene) || told.isBilled(scene)) return false;
                told.mount(scene, told.billed);
            }
            return false;
        }

        private boolean readTill() {
            int till = number(';', 0, MOST_TOLD_TILL);
            told.till = till;
            return till >= 0;
        }

        /** The value of one or two figures with that end behind them, or BAD. */
        private int number(int end, int least, int most) {
            int value = figure(next());
            if (value < 0) return BAD;
            int sign = next();
            if (figure(sign) >= 0) {
                value = value * TEN + figure(sign);
                sign = next();
            }
            return sign == end && within(value, least, most) ? value : BAD;
        }

        private int next() {
            int letter = spot < length ? letters.at(spot) : NONE;
            spot++;
            return letter;
        }

        private static int figure(int letter) {
            return within(letter, '0', '9') ? letter - '0' : BAD;
        }
    }

    /** All as it stands: what was told, and what nights, hires and moves have made of it. */
    private static final class House {
        private final Row sceneKinds = new Row(MOST);
        private final Row minutes = new Row(MOST);
        private final Row clauses = new Row(MOST);
        private final Row shown = new Row(MOST);
        private final Row bill = new Row(MOST);
        private final Row seatKinds = new Row(MOST);
        private final Row tastes = new Row(MOST);
        private final Row patiences = new Row(MOST);
        private final Row bound = new Row(MOST);
        private final Row line = new Row(MOST);
        private int scenes;
        private int seats;
        private int billed;
        private int till;
        private int nights;
        private int passed;

        void empty() {
            shown.clear();
            bound.clear();
            line.numberThrough();
            scenes = 0;
            seats = 0;
            billed = 0;
            till = TILL_UNTOLD;
            nights = 0;
            passed = 0;
        }

        void copy(House other) {
            sceneKinds.copy(other.sceneKinds);
            minutes.copy(other.minutes);
            clauses.copy(other.clauses);
            shown.copy(other.shown);
            bill.copy(other.bill);
            seatKinds.copy(other.seatKinds);
            tastes.copy(other.tastes);
            patiences.copy(other.patiences);
            bound.copy(other.bound);
            line.copy(other.line);
            scenes = other.scenes;
            seats = other.seats;
            billed = other.billed;
            till = other.till;
            nights = other.nights;
            passed = other.passed;
        }

        boolean tellScene(int kind, int length, int clause) {
            if (scenes >= MOST) return false;
            sceneKinds.put(scenes, kind);
            minutes.put(scenes, length);
            clauses.put(scenes, clause);
            scenes++;
            return true;
        }

        boolean tellSeat(int kind, int taste, int patience) {
            if (seats >= MOST) return false;
            seatKinds.put(seats, kind);
            tastes.put(seats, taste);
            patiences.put(seats, patience);
            seats++;
            return true;
        }

        boolean isScene(int scene) {
            return within(scene, 0, scenes - 1);
        }

        boolean isSeat(int seat) {
            return within(seat, 0, seats - 1);
        }

        int placeOnBill(int scene) {
            return bill.placeOf(scene, billed);
        }

        int placeInLine(int seat) {
            return line.placeOf(seat, seats);
        }

        boolean isBilled(int scene) {
            return bill.placeOf(scene, billed) != NONE;
        }

        void mount(int scene, int place) {
            bill.insert(place, scene, billed);
            billed++;
        }

        void strike(int scene) {
            bill.remove(placeOnBill(scene), billed);
            billed--;
        }

        void trade(int one, int other) {
            line.trade(placeInLine(one), placeInLine(other));
        }

        boolean canEngage(int seat) {
            return seatKinds.at(seat) != CLAQUE && till >= WAGE;
        }

        void engage(int seat) {
            seatKinds.put(seat, CLAQUE);
            till -= WAGE;
        }

        int claqueurs() {
            int found = 0;
            for (int seat = 0; seat < seats; seat++) {
                if (seatKinds.at(seat) == CLAQUE) found++;
            }
            return found;
        }

        /** Each seat counts for each of its clauses. */
        int bindings() {
            int found = 0;
            for (int seat = 0; seat < seats; seat++) found += Integer.bitCount(bound.at(seat));
            return found;
        }

        /** The scene's clause as a bit; 0 if it has none. */
        int clauseBit(int scene) {
            int clause = clauses.at(scene);
            return clause == NO_CLAUSE ? 0 : 1 << clause;
        }

        boolean canOpen() {
            return billed > 0 && till >= claqueurs();
        }

        /** What a night leaves behind it. */
        void settle(Night night) {
            if (night.carries(this)) {
                bindAll(night);
                passed++;
            }
            int claqueurs = claqueurs();
            // claques never leave, so all who are gone would have paid
            int payers = seats - claqueurs - night.gone;
            till = Math.min(MOST_TILL, till - claqueurs + payers);
            nights++;
            tire();
        }

        /** The scenes on the bill are known one night better. */
        void tire() {
            for (int place = 0; place < billed; place++) {
                int scene = bill.at(place);
                shown.put(scene, shown.at(scene) + 1);
            }
        }

        void bindAll(Night night) {
            for (int place = 0; place < billed; place++) {
                int kind = sceneKinds.at(bill.at(place));
                int clause = clauseBit(bill.at(place));
                for (int seat = 0; seat < seats; seat++) {
                    if (isIn(night.seen.at(seat), place)) bind(seat, kind, clause);
                }
            }
        }

        private void bind(int seat, int kind, int clause) {
            if (kind == TRAGEDY) bound.put(seat, bound.at(seat) & ~clause);
            else if (kind != SONG || tastes.at(seat) == SONG) bound.put(seat, bound.at(seat) | clause);
        }
    }

    /** Houses laid aside, the latest on top; one too many drops the oldest. */
    private static final class Houses {
        private final House[] houses;
        private int top;
        private int held;

        Houses(int room) {
            houses = new House[room < 1 ? 1 : room];
            for (int i = 0; i < houses.length; i++) houses[i] = new House();
        }

        void push(House house) {
            House free = top >= 0 && top < houses.length ? houses[top] : null;
            if (free == null) return;
            free.copy(house);
            top = top + 1 < houses.length ? top + 1 : 0;
            held = Math.min(houses.length, held + 1);
        }

        void pop(House house) {
            int last = top > 0 ? top - 1 : houses.length - 1;
            House latest = last >= 0 && last < houses.length ? houses[last] : null;
            if (latest == null || held == 0) return;
            house.copy(latest);
            top = last;
            held--;
        }
    }

    /** What was seen of seats: behind which scene they would leave. */
    private static final class Sights {
        private final Row seats = new Row(MOST_SEEN);
        private final Row behind = new Row(MOST_SEEN);
        private int noted;

        boolean note(int seat, int scene) {
            if (noted >= MOST_SEEN) return false;
            seats.put(noted, seat);
            behind.put(noted, scene);
            noted++;
            return true;
        }

        /** Whether all that was seen of the seat is that it leaves just there. */
        boolean agree(int seat, int left) {
            for (int i = 0; i < noted; i++) {
                if (seats.at(i) == seat && behind.at(i) != left) return false;
            }
            return true;
        }
    }

    /** One evening, scene behind scene: rows by seat, but for those by place in the line. */
    private static final class Night {
        private final Row boredom = new Row(MOST);
        private final Row left = new Row(MOST);
        private final Row asleep = new Row(MOST);
        private final Row seen = new Row(MOST);
        private final Row emptyPlaces = new Row(MOST);
        private int gone;

        void begin() {
            boredom.clear();
            left.clear();
            asleep.clear();
            seen.clear();
            emptyPlaces.clear();
            gone = 0;
        }

        void copy(Night other) {
            boredom.copy(other.boredom);
            left.copy(other.left);
            asleep.copy(other.asleep);
            seen.copy(other.seen);
            emptyPlaces.copy(other.emptyPlaces);
            gone = other.gone;
        }

        /** The whole bill; the coughing seats leave behind its first scene. */
        void unfold(House house, int coughing) {
            begin();
            for (int act = 0; act < house.billed; act++) stage(house, act, act == 0 ? coughing : 0);
        }

        void stage(House house, int act, int coughing) {
            watch(house, act);
            // all who cough are gone before boredom drives anyone out
            for (int place = 0; place < house.seats; place++) {
                if (isIn(coughing, house.line.at(place))) leave(house, place, act);
            }
            for (int place = 0; place < house.seats; place++) {
                if (emptyPlaces.at(place) != 0) continue;
                bore(house, house.line.at(place), house.bill.at(act));
                if (isDrivenOut(house, place)) leave(house, place, act);
            }
        }

        boolean carries(House house) {
            return house.billed > 0 && 3 * (house.seats - gone) >= 2 * house.seats;
        }

        private void watch(House house, int act) {
            for (int seat = 0; seat < house.seats; seat++) {
                if (left.at(seat) == 0 && asleep.at(seat) == 0) seen.put(seat, seen.at(seat) | 1 << act);
            }
        }

        private void leave(House house, int place, int act) {
            left.put(house.line.at(place), act + 1);
            emptyPlaces.put(place, 1);
            gone++;
        }

        private void bore(House house, int seat, int scene) {
            int minutes = house.minutes.at(scene);
            int before = boredom.at(seat);
            int kind = house.seatKinds.at(seat);
            if (house.tastes.at(seat) == house.sceneKinds.at(scene)) {
                boredom.put(seat, Math.max(0, before - minutes / 2));
            } else {
                int more = minutes + TIRING * Math.min(MOST_TIRING, house.shown.at(scene));
                boredom.put(seat, before + (kind == CRITIC ? 2 * more : more));
            }
            if (kind == SLEEPER) asleep.put(seat, boredom.at(seat) > house.patiences.at(seat) ? 1 : 0);
        }

        private boolean isDrivenOut(House house, int place) {
            int seat = house.line.at(place);
            int kind = house.seatKinds.at(seat);
            if (kind == SLEEPER || kind == CLAQUE) return false;
            // beyond both ends of the line nobody is missed: a row reads as 0 there
            int missed = emptyPlaces.at(place - 1) + emptyPlaces.at(place + 1);
            return boredom.at(seat) > Math.max(0, house.patiences.at(seat) - COMPANY * missed);
        }
    }

    /** The search for the shortest bill that passes with a set of clauses. */
    private static final class Shortest {
        private final House trial = new House();
        private final Night[] evenings = new Night[MOST + 1];
        private final Row row = new Row(MOST);
        private int length;
        private int minutes;
        private int foundSet;
        private int foundStamp = NONE;

        Shortest() {
            for (int i = 0; i < evenings.length; i++) evenings[i] = new Night();
        }

        void find(House house, int set, int stamp) {
            if (set == foundSet && stamp == foundStamp) return;
            foundSet = set;
            foundStamp = stamp;
            trial.copy(house);
            length = 0;
            minutes = TOO_LONG;
            // most sets hold a clause that no scene brings: no row needs to be tried for them
            if ((set & ~allBindable()) == 0) extend(this, 0, 0, 0, set);
        }

        private int allBindable() {
            int all = 0;
            for (int scene = 0; scene < trial.scenes; scene++) all |= bindable(scene);
            return all;
        }

        /** Rows come in their order, so of equally short ones the first found stays. */
        private static void extend(Shortest search, int depth, int used, int spent, int missing) {
            if (depth >= MOST) return;
            for (int scene = 0; scene < search.trial.scenes; scene++) {
                int total = spent + search.trial.minutes.at(scene);
                if (isIn(used, scene) || total >= search.minutes) continue;
                // who has left stays away, so what goes on from a failing row fails too
                if (!search.endures(depth, scene)) continue;
                int open = missing & ~search.bindable(scene);
                if (open == 0) search.note(depth + 1, total);
                extend(search, depth + 1, used | 1 << scene, total, open);
            }
        }

        private boolean endures(int depth, int scene) {
            Night before = evening(depth);
            Night after = evening(depth + 1);
            if (before == null || after == null) return false;
            trial.bill.put(depth, scene);
            trial.billed = depth + 1;
            after.copy(before);
            after.stage(trial, depth, 0);
            return after.carries(trial);
        }

        /** How the night stands behind so many scenes. */
        private Night evening(int depth) {
            return depth >= 0 && depth < evenings.length ? evenings[depth] : null;
        }

        private int bindable(int scene) {
            return trial.sceneKinds.at(scene) == TRAGEDY ? 0 : trial.clauseBit(scene);
        }

        private void note(int depth, int total) {
            length = depth;
            minutes = total;
            row.copy(trial.bill);
        }
    }

    /** The search for the line of seats in which most stay. */
    private static final class Lineup {
        private final House trial = new House();
        private final Night night = new Night();
        private final Row row = new Row(MOST);
        private int staying;
        private int foundStamp = NONE;

        void find(House house, int stamp) {
            if (stamp == foundStamp) return;
            foundStamp = stamp;
            int enough = patientAlone(house);
            trial.copy(house);
            trial.line.numberThrough();
            staying = NONE;
            boolean more = true;
            for (int i = 0; i < ALL_ROWS && more && staying < enough; i++) {
                tryLine();
                more = nextLine();
            }
        }

        /** Neighbours only ever drive a seat out, so no line keeps one that would leave alone. */
        private int patientAlone(House house) {
            int patient = 0;
            trial.copy(house);
            trial.seats = 1;
            for (int seat = 0; seat < house.seats; seat++) {
                trial.line.put(0, seat);
                night.unfold(trial, 0);
                if (night.gone == 0) patient++;
            }
            return patient;
        }

        private void tryLine() {
            night.unfold(trial, 0);
            int stay = trial.seats - night.gone;
            if (stay <= staying) return;
            staying = stay;
            row.copy(trial.line);
        }

        /** Goes on to the line that is next in their order; false behind the last. */
        private boolean nextLine() {
            Row line = trial.line;
            int low = trial.seats - 2;
            while (low >= 0 && line.at(low) > line.at(low + 1)) low--;
            if (low < 0) return false;
            int high = trial.seats - 1;
            while (high > low && line.at(high) < line.at(low)) high--;
            line.trade(low, high);
            for (int i = low + 1, j = trial.seats - 1; i < j; i++, j--) line.trade(i, j);
            return true;
        }
    }

    /** What would be, were the house, its bill or a seat another. */
    private static final class Outlook {
        private final House trial = new House();
        private final Night night = new Night();
        private int addition;
        private int binding;

        /** The seats to be made claques, as bits, or NONE. */
        int fewestClaques(House house) {
            int best = NONE;
            int fewest = MOST + 1;
            for (int set = 0; set < 1 << house.seats; set++) {
                if (Integer.bitCount(set) >= fewest) continue;
                trial.copy(house);
                for (int seat = 0; seat < house.seats; seat++) {
                    if (isIn(set, seat)) trial.seatKinds.put(seat, CLAQUE);
                }
                if (!trialPasses()) continue;
                best = set;
                fewest = Integer.bitCount(set);
            }
            return best;
        }

        int fatalCut(House house) {
            trial.copy(house);
            if (!trialPasses()) return NONE;
            for (int scene = 0; scene < house.scenes; scene++) {
                if (!house.isBilled(scene)) continue;
                trial.copy(house);
                trial.strike(scene);
                if (!trialPasses()) return scene;
            }
            return NONE;
        }

        int nightsAhead(House house) {
            trial.copy(house);
            for (int ahead = 0; ahead < MOST_RUN; ahead++) {
                if (!trialPasses()) return ahead;
                trial.tire();
            }
            return MOST_RUN;
        }

        void findAddition(House house) {
            addition = NONE;
            binding = NONE;
            for (int scene = 0; scene < house.scenes; scene++) {
                if (house.isBilled(scene)) continue;
                for (int place = 0; place <= house.billed; place++) tryAddition(house, scene, place);
            }
        }

        private void tryAddition(House house, int scene, int place) {
            trial.copy(house);
            trial.mount(scene, place);
            night.unfold(trial, 0);
            if (night.carries(trial)) trial.bindAll(night);
            int bindings = trial.bindings();
            if (bindings <= binding) return;
            binding = bindings;
            addition = TEN * scene + place;
        }

        int fittingPatiences(House house, Sights sights, int seat) {
            int fitting = 0;
            trial.copy(house);
            for (int patience = 0; patience <= MOST_PATIENCE; patience++) {
                trial.patiences.put(seat, patience);
                if (trialAgrees(sights, seat)) fitting |= 1 << patience;
            }
            return fitting;
        }

        int fittingTastes(House house, Sights sights, int seat) {
            int fitting = 0;
            trial.copy(house);
            for (int taste = 0; taste < KINDS; taste++) {
                trial.tastes.put(seat, taste);
                if (trialAgrees(sights, seat)) fitting |= 1 << taste;
            }
            return fitting;
        }

        private boolean trialAgrees(Sights sights, int seat) {
            night.unfold(trial, 0);
            return sights.agree(seat, night.left.at(seat));
        }

        private boolean trialPasses() {
            night.unfold(trial, 0);
            return night.carries(trial);
        }
    }

    /** Coughs and draws. */
    private static final class Chances {
        private final House trial = new House();
        private final Night night = new Night();
        private int above;
        private int below;

        /** The chance that the night passes, if each who can cough does so by x of ten. */
        void weigh(House house, int x) {
            above = 0;
            below = 1;
            for (int seat = 0; seat < house.seats; seat++) {
                if (canCough(house, seat)) below *= TEN;
            }
            for (int set = 0; set < 1 << house.seats; set++) {
                int weight = weightOf(house, set, x);
                if (weight == 0) continue;
                night.unfold(house, set);
                if (night.carries(house)) above += weight;
            }
            int common = commonDivisor(above, below);
            if (common < 1) return;
            above /= common;
            below /= common;
        }

        /** How many of all the equally likely cases are those in which just these seats cough. */
        private static int weightOf(House house, int set, int x) {
            int weight = 1;
            for (int seat = 0; seat < house.seats; seat++) {
                boolean coughing = isIn(set, seat);
                if (canCough(house, seat)) weight *= coughing ? x : TEN - x;
                else if (coughing) return 0;
            }
            return weight;
        }

        private static boolean canCough(House house, int seat) {
            int kind = house.seatKinds.at(seat);
            return kind != SLEEPER && kind != CLAQUE;
        }

        private static int commonDivisor(int one, int other) {
            int a = one;
            int b = other;
            // every two rounds halve b at least, so it is 0 long before the last
            for (int round = 0; round < 100 && b != 0; round++) {
                int rest = a % b;
                a = b;
                b = rest;
            }
            return a;
        }

        void playSeason(House house, int z, int n) {
            trial.copy(house);
            for (int k = 0; k < n; k++) {
                long x = 7919L * z + 6151L * k + 1;
                takeDraw((int) (x * x % 65521));
            }
        }

        private void takeDraw(int draw) {
            if (trial.scenes < 1 || trial.seats < 1) return;
            int scene = draw / 8 % trial.scenes;
            int seat = draw / 8 % trial.seats;
            int second = draw / 64 % trial.seats;
            switch (draw % 8) {
                case 0:
                case 1:
                    if (!trial.isBilled(scene)) trial.mount(scene, trial.billed);
                    break;
                case 2:
                    if (trial.isBilled(scene)) trial.strike(scene);
                    break;
                case 3:
                    if (seat != second) trial.trade(seat, second);
                    break;
                case 4:
                    if (trial.canEngage(seat)) trial.engage(seat);
                    break;
                default:
                    if (!trial.canOpen()) break;
                    night.unfold(trial, 0);
                    trial.settle(night);
            }
        }
    }
}
