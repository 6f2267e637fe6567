import java.util.function.Consumer;
import java.util.function.ToIntFunction;

/**
 * Each refused call with the error that it answers, also where it could answer more than one (the error asked first
 * is due), and with nothing changed but what told() tells; then each asking call, which changes nothing at all.
 */
public final class RefusedTest {
    private static final int BEYOND = Due.BEYOND;
    private static final int NONE = Due.NONE;
    private static final int STATE = Due.STATE;
    private static final int FULL = Due.FULL;
    private static final int KIND = Due.KIND;
    private static final int MIN = Integer.MIN_VALUE;
    private static final int MAX = Integer.MAX_VALUE;
    private static final Due DUE = new Due();

    public static void main(String[] args) {
        parts();
        players();
        texts();
        nights();
        castings();
        rowsAndPurses();
        drawsAndVoices();
        sheets();
        moves();
        imagesAndTold();
        questions();
        DUE.end();
    }

    /** On a house of everything. */
    private static void refused(String name, int error, ToIntFunction<UnderstudyHouse> call) {
        refused(name, error, x -> { }, call);
    }

    /** On a house of everything that some calls came to ahead. */
    private static void refused(String name, int error, Consumer<UnderstudyHouse> ahead,
                                ToIntFunction<UnderstudyHouse> call) {
        compare(name, error, House.after(House.rich(), ahead), House.after(House.rich(), ahead), call);
    }

    /** On a house of everything, as old as can be. */
    private static void refusedLate(String name, int error, int night, ToIntFunction<UnderstudyHouse> call) {
        Consumer<UnderstudyHouse> ahead = x -> {
            House.parts(x, 4, 13);
            House.players(x, 3, 3);
            Due.row(x, 0, 8, 0, 1);
        };
        compare(name, error, House.after(House.old(night), ahead), House.after(House.old(night), ahead), call);
    }

    /** Makes the call on x alone; both houses have to be the same otherwise. */
    private static void compare(String name, int answer, UnderstudyHouse x, UnderstudyHouse same,
                                ToIntFunction<UnderstudyHouse> call) {
        int[] before = State.told(x);
        DUE.due(name, call.applyAsInt(x), answer);
        int[] after = State.told(x);
        for (int k = 1; k <= 5; k++) {
            DUE.due(name + ": told " + k, after[k], before[k] + (answer == -1000000000 - k ? 1 : 0));
        }
        DUE.same(name + ": all else", State.of(x), State.of(same));
    }

    /** What is next below and above what is taken, and the ends of the ints. */
    private static int[] outside(int least, int most) {
        return new int[] {least - 1, most + 1, MIN, MAX};
    }

    private static void fillParts(UnderstudyHouse x) {
        x.part(20, 1);
    }

    private static void fillPlayers(UnderstudyHouse x) {
        x.player(-1);
        x.player(-1);
    }

    private static void allIll(UnderstudyHouse x) {
        for (int player = 0; player < 4; player++) {
            x.change(player, 3, 1);
        }
    }

    /** A season without an end, in which each player stays with his part. */
    private static void catsAlone(UnderstudyHouse x) {
        for (int part = 0; part < 4; part++) {
            x.become(part, part == 0 ? 50 : 30);
        }
        x.change(0, 0, 0);
    }

    private static void parts() {
        for (int v : outside(0, 69)) {
            refused("part: km " + v, BEYOND, x -> x.part(v, 0));
            refused("become: km " + v, BEYOND, x -> x.become(0, v));
            refused("full: part: km " + v, BEYOND, RefusedTest::fillParts, x -> x.part(v, 0));
        }
        for (int v : outside(0, 99)) {
            refused("part: lines " + v, BEYOND, x -> x.part(0, v));
            refused("lines: v " + v, BEYOND, x -> x.lines(0, v));
            refused("full: part: lines " + v, BEYOND, RefusedTest::fillParts, x -> x.part(0, v));
        }
        refused("part: full", FULL, RefusedTest::fillParts, x -> x.part(0, 0));
        refused("part: full, to the most", FULL, RefusedTest::fillParts, x -> x.part(69, 99));
        for (int part : outside(0, 3)) {
            refused("ofPart: part " + part, BEYOND, x -> x.ofPart(part, 0));
            refused("lines: part " + part, BEYOND, x -> x.lines(part, 0));
            refused("become: part " + part, BEYOND, x -> x.become(part, 0));
            refused("as: part " + part, BEYOND, x -> x.as(part, 0));
        }
        refused("ofPart: part 5", BEYOND, RefusedTest::fillParts, x -> x.ofPart(5, 0));
        for (int what : outside(0, 6)) {
            refused("ofPart: what " + what, BEYOND, x -> x.ofPart(0, what));
        }
        for (int kind : outside(0, 6)) {
            refused("as: kind " + kind, BEYOND, x -> x.as(0, kind));
        }
        for (int kind = 1; kind <= 6; kind++) {
            int other = kind;
            refused("as: a PART as " + kind, KIND, x -> x.as(0, other));
        }
        refused("as: a DOUBLED as SPLIT", KIND, x -> x.as(1, 4));
        refused("as: a CAT as DOUBLED", KIND, x -> x.as(3, 1));
    }

    private static void players() {
        for (int own : outside(-1, 3)) {
            refused("player: own " + own, BEYOND, x -> x.player(own));
            refused("full: player: own " + own, BEYOND, RefusedTest::fillPlayers, x -> x.player(own));
            refused("change: own " + own, BEYOND, x -> x.change(0, 2, own));
        }
        refused("player: full", FULL, RefusedTest::fillPlayers, x -> x.player(-1));
        refused("player: full, for a part", FULL, RefusedTest::fillPlayers, x -> x.player(3));
        for (int player : outside(0, 3)) {
            refused("ofPlayer: player " + player, BEYOND, x -> x.ofPlayer(player, 0));
            for (int what = 0; what <= 3; what++) {
                int one = what;
                refused("change: player " + player + " what " + what, BEYOND, x -> x.change(player, one, 0));
            }
        }
        refused("ofPlayer: player 6", BEYOND, RefusedTest::fillPlayers, x -> x.ofPlayer(6, 0));
        for (int what : outside(0, 5)) {
            refused("ofPlayer: what " + what, BEYOND, x -> x.ofPlayer(0, what));
        }
        for (int what : outside(0, 3)) {
            refused("change: what " + what, BEYOND, x -> x.change(0, what, 0));
        }
        for (int set : outside(0, 15)) {
            refused("change: knows " + set, BEYOND, x -> x.change(0, 0, set));
            refused("change: played " + set, BEYOND, x -> x.change(0, 1, set));
        }
        refused("change: knows 32 of five parts", BEYOND, RefusedTest::fillParts, x -> x.change(0, 0, 32));
        refused("change: played 32 of five parts", BEYOND, RefusedTest::fillParts, x -> x.change(0, 1, 32));
        for (int v : outside(0, 1)) {
            refused("change: ill " + v, BEYOND, x -> x.change(0, 3, v));
            refused("gala: v " + v, BEYOND, x -> x.gala(v));
        }
    }

    private static void fillTape(UnderstudyHouse x, int bytes) {
        for (int left = bytes - x.count(7); left > 0; left--) {
            x.feed('l', 1);
        }
    }

    private static void texts() {
        for (int n : outside(1, 8)) {
            refused("feed: n " + n, BEYOND, x -> x.feed(-1L, n));
            refused("full: feed: n " + n, BEYOND, x -> fillTape(x, 50), x -> x.feed(-1L, n));
        }
        for (int n = 1; n <= 8; n++) {
            int many = n;
            refused("feed: one too many of " + n, FULL, x -> fillTape(x, 51 - many), x -> x.feed(-1L, many));
            refused("feed: full for " + n, FULL, x -> fillTape(x, 50), x -> x.feed(-1L, many));
        }
        for (int use : outside(0, 1)) {
            refused("text: use " + use, BEYOND, x -> x.text(use));
            refused("law: use " + use, BEYOND, x -> x.law(use, 1, 2, 3));
        }
    }

    private static void nights() {
        for (int sheet : outside(0, 3)) {
            refused("cast: sheet " + sheet, BEYOND, x -> x.cast(sheet));
            refusedLate("late: cast: sheet " + sheet, BEYOND, 9999, x -> x.cast(sheet));
        }
        refused("cast: missing", NONE, x -> x.cast(2));
        refusedLate("late: cast: missing", NONE, 9999, x -> x.cast(2));
        refusedLate("late: cast: a casting", STATE, 9999, x -> x.cast(0));
        refused("cast: numbers lack", STATE, x -> x.cast(3));
        refused("cast: no numbers", STATE, x -> x.sheet(3, 8, 0), x -> x.cast(3));
        refused("cast: a number too many", STATE, x -> Due.row(x, 3, 8, 0, 2, 2, 1, 0), x -> x.cast(3));
        refused("cast: one who may not", STATE, x -> x.put(0, 0, 1), x -> x.cast(0));
        refused("cast: one who is ill", STATE, x -> x.put(0, 3, 3), x -> x.cast(0));
        refused("cast: one for two", STATE, x -> x.put(0, 3, 2), x -> x.cast(0));
        refused("cast: nobody", STATE, x -> x.put(0, 3, -1), x -> x.cast(0));
        refused("cast: no such player", STATE, x -> x.put(0, 3, 4), x -> x.cast(0));
        refused("cast: one for an empty part", STATE, x -> x.become(3, 30), x -> x.cast(0));
        for (int n : outside(1, 60)) {
            refused("nights: n " + n, BEYOND, x -> x.nights(n));
        }
        refusedLate("late: nights: n 0", BEYOND, 9999, x -> x.nights(0));
        for (int n : outside(1, 40)) {
            refused("loose: n " + n, BEYOND, x -> x.loose(n));
        }
        refusedLate("late: loose: n 41", BEYOND, 9999, x -> x.loose(41));
        refusedLate("late: loose: n 0", BEYOND, 9999, x -> x.loose(0));
        refusedLate("late: loose: 1 at 9999", STATE, 9999, x -> x.loose(1));
        refusedLate("late: loose: 2 at 9998", STATE, 9998, x -> x.loose(2));
        refusedLate("late: loose: 40 at 9960", STATE, 9960, x -> x.loose(40));
    }

    private static void castings() {
        for (int part : outside(0, 3)) {
            refused("first: part " + part, BEYOND, x -> x.first(part));
            refused("no casting: first: part " + part, BEYOND, RefusedTest::allIll, x -> x.first(part));
            refused("learns: part " + part, BEYOND, x -> x.learns(0, part));
        }
        refused("first: no casting", NONE, RefusedTest::allIll, x -> x.first(0));
        for (int n : outside(0, 60)) {
            refused("then: n " + n, BEYOND, x -> x.then(n, 0, 0));
        }
        for (int player : outside(0, 3)) {
            refused("then: player " + player, BEYOND, x -> x.then(1, player, 0));
            refused("learns: player " + player, BEYOND, x -> x.learns(player, 0));
        }
        for (int what : outside(0, 2)) {
            refused("then: what " + what, BEYOND, x -> x.then(1, 0, what));
        }
        refused("learns: not by then", NONE, x -> x.learns(3, 0));
        refused("learns: not in 60 nights of more", NONE, RefusedTest::catsAlone, x -> x.learns(0, 3));
        for (int set : outside(0, 15)) {
            refused("tells: set " + set, BEYOND, x -> x.tells(set));
            refused("spare: set " + set, BEYOND, x -> x.spare(set));
            refused("full: spare: set " + set, BEYOND, RefusedTest::fillPlayers, x -> x.spare(set));
        }
        refused("tells: 64 of six players", BEYOND, RefusedTest::fillPlayers, x -> x.tells(64));
        refused("spare: 32 of five parts", BEYOND, RefusedTest::fillParts, x -> x.spare(32));
        refused("spare: full", FULL, RefusedTest::fillPlayers, x -> x.spare(15));
    }

    private static UnderstudyHouse onlyPlayers() {
        UnderstudyHouse x = new UnderstudyHouse();
        House.players(x, 0, 0);
        return x;
    }

    private static void rowsAndPurses() {
        for (int sheet : outside(0, 3)) {
            refused("changes: sheet " + sheet, BEYOND, x -> x.changes(sheet, 0));
            refused("fits: sheet " + sheet, BEYOND, x -> x.fits(sheet, -1));
        }
        for (int player : outside(0, 3)) {
            refused("changes: player " + player, BEYOND, x -> x.changes(0, player));
            refused("changes: missing, player " + player, BEYOND, x -> x.changes(2, player));
            refused("changes: too short, player " + player, BEYOND, x -> x.changes(3, player));
        }
        for (int what : outside(-1, 3)) {
            refused("fits: what " + what, BEYOND, x -> x.fits(1, what));
            refused("fits: missing, what " + what, BEYOND, x -> x.fits(2, what));
            refused("fits: too short, what " + what, BEYOND, x -> x.fits(3, what));
        }
        refused("changes: missing", NONE, x -> x.changes(2, 0));
        refused("changes: one lacks", NONE, x -> x.sheet(3, 8, 3), x -> x.changes(3, 3));
        refused("changes: one too many", NONE, x -> x.sheet(3, 8, 5), x -> x.changes(3, 3));
        refused("changes: no such casting", NONE, x -> x.changes(0, 0));
        refused("fits: missing", NONE, x -> x.fits(2, -1));
        refused("fits: one lacks", NONE, x -> x.sheet(3, 8, 3), x -> x.fits(3, -1));
        refused("fits: one too many", NONE, x -> x.sheet(3, 8, 5), x -> x.fits(3, -1));
        compare("changes: missing, for no parts", NONE, onlyPlayers(), onlyPlayers(), x -> x.changes(0, 0));
        compare("fits: missing, for no players", NONE, House.of(30), House.of(30), x -> x.fits(0, -1));
        refused("fits: there is none", NONE, x -> x.fits(1, 0));
        refused("fits: no casting", NONE, RefusedTest::allIll, x -> x.fits(1, 3));
    }

    private static void drawsAndVoices() {
        for (int part : outside(0, 3)) {
            refused("voice: part " + part, BEYOND, x -> x.voice(part, 0, 1));
        }
        for (int act : outside(0, 3)) {
            refused("voice: act " + act, BEYOND, x -> x.voice(0, act, 1));
        }
        int bodies = House.rich().count(9);
        for (int i : outside(0, bodies - 1)) {
            refused("trace: " + i, NONE, x -> x.trace(i));
        }
        refused("trace: 39", NONE, x -> x.trace(39));
        refused("trace: 40", NONE, x -> x.trace(40));
        compare("new: trace 0", NONE, House.of(0), House.of(0), x -> x.trace(0));
    }

    private static void sheets() {
        for (int sheet : outside(0, 3)) {
            refused("sheet: sheet " + sheet, BEYOND, x -> x.sheet(sheet, 8, 1));
            refused("sheet: missing, sheet " + sheet, BEYOND, x -> x.sheet(sheet, 0, 1));
            refused("sheet: n -1, sheet " + sheet, BEYOND, x -> x.sheet(sheet, 8, -1));
            refused("put: sheet " + sheet, BEYOND, x -> x.put(sheet, 0, 1));
            refused("loads: sheet " + sheet, BEYOND, x -> x.loads(sheet));
            refused("judge: sheet " + sheet, BEYOND, x -> x.judge(sheet));
        }
        for (int bits : new int[] {-32, -16, -8, -1, 1, 4, 7, 9, 15, 17, 24, 31, 33, 64, MIN, MAX}) {
            refused("sheet: bits " + bits, BEYOND, x -> x.sheet(0, bits, 1));
            refused("sheet: n -1, bits " + bits, BEYOND, x -> x.sheet(0, bits, -1));
        }
        for (int bits = 8; bits <= 32; bits *= 2) {
            int wide = bits;
            refused("sheet: n -1 of " + bits, STATE, x -> x.sheet(0, wide, -1));
            refused("sheet: n at the least of " + bits, STATE, x -> x.sheet(0, wide, MIN));
            refused("sheet: n 41 of " + bits, BEYOND, x -> x.sheet(0, wide, 41));
            refused("sheet: n at the most of " + bits, BEYOND, x -> x.sheet(0, wide, MAX));
        }
        refused("put: missing", NONE, x -> x.put(2, 0, 1));
        refused("put: missing, number -1", NONE, x -> x.put(2, -1, 1));
        for (int i : outside(0, 3)) {
            refused("put: number " + i, BEYOND, x -> x.put(0, i, 1));
        }
        refused("put: number 40 of 40", BEYOND, x -> x.sheet(2, 8, 40), x -> x.put(2, 40, 1));
        refused("put: number 0 of none", BEYOND, x -> x.sheet(2, 8, 0), x -> x.put(2, 0, 1));
        refused("loads: missing", NONE, x -> x.loads(2));
        refused("judge: missing", NONE, x -> x.judge(2));
    }

    private static void moves() {
        for (int sheet : outside(0, 3)) {
            refused("move: sheet " + sheet, BEYOND, x -> x.move(sheet, 0, 0, 0, 1));
            refused("move: to sheet " + sheet, BEYOND, x -> x.move(0, 0, sheet, 0, 1));
            refused("move: missing to sheet " + sheet, BEYOND, x -> x.move(2, 0, sheet, 0, 1));
            refused("move: sheet " + sheet + " to missing", BEYOND, x -> x.move(sheet, 0, 2, 0, 1));
        }
        refused("move: missing", NONE, x -> x.move(2, 0, 0, 0, 1));
        refused("move: to missing", NONE, x -> x.move(0, 0, 2, 0, 1));
        refused("move: missing to itself", NONE, x -> x.move(2, 0, 2, 0, 0));
        refused("move: missing, n -1", NONE, x -> x.move(0, -1, 2, -1, -1));
        refused("move: 8 to 16 bits", KIND, x -> x.move(0, 0, 1, 0, 1));
        refused("move: 16 to 32 bits", KIND, x -> x.move(1, 0, 3, 0, 1));
        refused("move: 32 to 8 bits, of none", KIND, x -> x.move(3, 0, 0, 0, 0));
        refused("move: unlike bits, n -1", KIND, x -> x.move(0, -1, 1, -1, -1));
        Consumer<UnderstudyHouse> two = x -> Due.row(x, 2, 8, 7, 8, 9);
        int[][] rows = {
            // i, j, n: sheet 0 has four numbers, sheet 2 three
            {0, 0, -1}, {-1, 0, 1}, {0, -1, 1}, {-1, 0, 0}, {0, -1, 0}, {0, 0, MIN}, {MIN, 0, 1}, {0, MIN, 1},
            {0, 0, 4}, {0, 1, 3}, {2, 0, 3}, {4, 0, 1}, {0, 3, 1}, {5, 0, 0}, {0, 4, 0}, {0, 0, MAX}, {MAX, 0, 1},
            {0, MAX, 1}, {MAX, MAX, MAX}, {1, 1, MAX}, {MAX, 0, 0}, {0, MAX, 0}, {4, 0, MIN}, {MIN, MIN, MIN}
        };
        for (int[] row : rows) {
            String name = "move: from " + row[0] + " to " + row[1] + ", " + row[2];
            refused(name, BEYOND, two, x -> x.move(0, row[0], 2, row[1], row[2]));
        }
        refused("move: past its own end", BEYOND, x -> x.move(0, 0, 0, 1, 4));
    }

    private static void imagesAndTold() {
        Consumer<UnderstudyHouse> noImage = x -> {
            House.parts(x, 3);
            House.players(x, 1);
            x.nights(1);
        };
        UnderstudyHouse fresh = House.after(new UnderstudyHouse(), noImage);
        UnderstudyHouse same = House.after(new UnderstudyHouse(), noImage);
        compare("restore: no image", NONE, fresh, same, UnderstudyHouse::restore);
        Consumer<UnderstudyHouse> wait = x -> {
            while (x.count(8) < 20) {
                x.tell(3);
            }
        };
        for (int v : new int[] {0, MIN, MAX}) {
            refused("tell: full, of " + v, FULL, wait, x -> x.tell(v));
        }
        for (int what : outside(0, 10)) {
            refused("count: what " + what, BEYOND, x -> x.count(what));
        }
        for (int k : outside(1, 5)) {
            refused("told: k " + k, BEYOND, x -> x.told(k));
        }
    }

    /** What only asks leaves all as it was; so do acts that put what is there already. */
    private static void questions() {
        UnderstudyHouse x = House.rich();
        leaves("castings", x.castings(), UnderstudyHouse::castings);
        leaves("season", x.season(), UnderstudyHouse::season);
        leaves("blocked", x.blocked(), UnderstudyHouse::blocked);
        leaves("idle", x.idle(), UnderstudyHouse::idle);
        leaves("first", x.first(0), y -> y.first(0));
        leaves("learns", x.learns(2, 1), y -> y.learns(2, 1));
        leaves("changes", x.changes(0, 3), y -> y.changes(0, 3));
        leaves("tells", x.tells(15), y -> y.tells(15));
        leaves("fits", x.fits(1, -1), y -> y.fits(1, -1));
        leaves("spare", x.spare(15), y -> y.spare(15));
        leaves("judge", x.judge(0), y -> y.judge(0));
        leaves("law", x.law(0, 1, 2, 3), y -> y.law(0, 1, 2, 3));
        leaves("as", x.as(3, 2), y -> y.as(3, 2));
        for (int what = 0; what <= 2; what++) {
            int one = what;
            leaves("then " + what, x.then(60, 2, what), y -> y.then(60, 2, one));
        }
        leaves("put what is there", 1, y -> y.put(0, 1, 2));
        leaves("move onto itself", 4, y -> y.move(0, 0, 0, 0, 4));
        leaves("move none", 0, y -> y.move(0, 4, 0, 4, 0));
        leaves("make missing what is missing", 1, y -> y.sheet(2, 0, 1));
    }

    private static void leaves(String name, int answer, ToIntFunction<UnderstudyHouse> call) {
        compare(name + " leaves all", answer, House.rich(), House.rich(), call);
    }
}
