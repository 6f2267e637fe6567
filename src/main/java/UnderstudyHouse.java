/** A theatre of understudies; what each call answers is told by the promises of DOC.md. */
public final class UnderstudyHouse {
    private static final int LOW = -1000000000;
    private static final int BEYOND = 1;
    private static final int NONE = 2;
    private static final int STATE = 3;
    private static final int FULL = 4;
    private static final int KIND = 5;
    private static final int MOST_ERROR = 5;

    private static final int MOST_PARTS = 5;
    private static final int MOST_PLAYERS = 6;
    private static final int MOST_LINES = 99;
    private static final int MOST_APPLAUSE = 99999;
    private static final int MOST_PURSE = 9999;
    private static final int MOST_NIGHT = 9999;
    private static final int MOST_SEASON = 60;
    private static final int MOST_LOOSE = 40;
    private static final int MOST_TAPE = 50;
    private static final int MOST_WAITING = 20;
    private static final int MOST_TRACE = 40;
    private static final int SHEETS = 4;
    private static final int MOST_NUMBERS = 40;

    /** Far above 6 to the 5th, so that it only makes the loops' ends visible. */
    private static final int MOST_STEPS = 1000000;

    private static final int PART = 0;
    private static final int DOUBLED = 1;
    private static final int SILENT = 2;
    private static final int DEAD = 3;
    private static final int SPLIT = 4;
    private static final int CAT = 5;
    private static final int GHOST = 6;
    private static final int KINDS = 7;
    /** The kind above each kind; -1: there is none. */
    private static final int[] ABOVE = {-1, PART, PART, PART, DOUBLED, SILENT, DEAD};
    private static final int MOST_SPLIT_LINES = 50;

    private static final int CLAPS = 0;
    private static final int WAGE = 1;
    private static final int USES = 2;

    private static final int SPEAKS = 0;
    private static final int ENTERS = 1;
    private static final int FALLS = 2;
    private static final int TELLS = 3;
    private static final int ACTS = 4;

    private final Book now;
    private final Book kept;
    private final Troupe thought;
    private final Castings search;
    private final Reader reader;
    private final Voices voices;
    private final Sheet[] sheets;
    private final int[] wages;
    private final int[] errors;
    private int images;

    public UnderstudyHouse() {
        now = new Book();
        kept = new Book();
        thought = new Troupe();
        search = new Castings();
        reader = new Reader();
        voices = new Voices();
        sheets = new Sheet[SHEETS];
        for (int i = 0; i < SHEETS; i++) {
            sheets[i] = new Sheet();
        }
        wages = new int[MOST_PARTS * MOST_PLAYERS];
        errors = new int[MOST_ERROR + 1];
    }

    // ---- parts, players

    public int part(int km, int lines) {
        if (!isKindWithMark(km) || !isWithin(lines, 0, MOST_LINES)) {
            return error(BEYOND);
        }
        if (now.troupe.parts >= MOST_PARTS) {
            return error(FULL);
        }
        return now.troupe.addPart(km, lines);
    }

    public int ofPart(int part, int what) {
        Troupe troupe = now.troupe;
        if (!troupe.hasPart(part)) {
            return error(BEYOND);
        }
        switch (what) {
            case 0: return troupe.kind[part];
            case 1: return troupe.mark[part];
            case 2: return troupe.lines[part];
            case 3: return troupe.applause[part];
            case 4: return troupe.isEmpty(part) ? 1 : 0;
            case 5: return troupe.whoMay(part);
            case 6: return troupe.whoKnow(part);
            default: return error(BEYOND);
        }
    }

    public int lines(int part, int v) {
        if (!now.troupe.hasPart(part) || !isWithin(v, 0, MOST_LINES)) {
            return error(BEYOND);
        }
        int was = now.troupe.lines[part];
        now.troupe.lines[part] = v;
        return was;
    }

    public int become(int part, int km) {
        if (!now.troupe.hasPart(part) || !isKindWithMark(km)) {
            return error(BEYOND);
        }
        int was = now.troupe.kind[part];
        now.troupe.shape(part, km);
        return was;
    }

    public int as(int part, int kind) {
        if (!now.troupe.hasPart(part) || !isWithin(kind, 0, KINDS - 1)) {
            return error(BEYOND);
        }
        if (!isUnder(now.troupe.kind[part], kind)) {
            return error(KIND);
        }
        return now.troupe.mark[part];
    }

    public int player(int own) {
        if (own != -1 && !now.troupe.hasPart(own)) {
            return error(BEYOND);
        }
        if (now.troupe.players >= MOST_PLAYERS) {
            return error(FULL);
        }
        return now.troupe.addPlayer(own, own < 0 ? 0 : 1 << own);
    }

    public int ofPlayer(int player, int what) {
        Troupe troupe = now.troupe;
        if (!troupe.hasPlayer(player)) {
            return error(BEYOND);
        }
        switch (what) {
            case 0: return troupe.knows[player];
            case 1: return troupe.played[player];
            case 2: return troupe.own[player];
            case 3: return troupe.purse[player];
            case 4: return troupe.ill >> player & 1;
            case 5: return troupe.whatMay(player);
            default: return error(BEYOND);
        }
    }

    public int change(int player, int what, int v) {
        Troupe troupe = now.troupe;
        if (!troupe.hasPlayer(player)) {
            return error(BEYOND);
        }
        switch (what) {
            case 0: return isWithin(v, 0, troupe.allParts()) ? swap(troupe.knows, player, v) : error(BEYOND);
            case 1: return isWithin(v, 0, troupe.allParts()) ? swap(troupe.played, player, v) : error(BEYOND);
            case 2: return isWithin(v, -1, troupe.parts - 1) ? swap(troupe.own, player, v) : error(BEYOND);
            case 3: return isWithin(v, 0, 1) ? troupe.swapIll(player, v) : error(BEYOND);
            default: return error(BEYOND);
        }
    }

    public int gala(int v) {
        if (!isWithin(v, 0, 1)) {
            return error(BEYOND);
        }
        int was = now.troupe.gala;
        now.troupe.gala = v;
        return was;
    }

    // ---- texts

    public int feed(long word, int n) {
        if (!isWithin(n, 1, 8)) {
            return error(BEYOND);
        }
        if (now.tape.size + n > MOST_TAPE) {
            return error(FULL);
        }
        for (int i = 0; i < n; i++) {
            now.tape.add((int) (word >>> 8 * i) & 255);
        }
        return now.tape.size;
    }

    public int text(int use) {
        if (!isWithin(use, 0, USES - 1)) {
            return error(BEYOND);
        }
        boolean good = reader.reads(use, now.tape);
        now.tape.clear();
        if (!good) {
            return -10 - reader.place;
        }
        now.lawOf(use).write(reader.code);
        return 1;
    }

    public int law(int use, int a, int b, int c) {
        if (!isWithin(use, 0, USES - 1)) {
            return error(BEYOND);
        }
        return now.lawOf(use).gives(a, b, c);
    }

    // ---- nights

    public int cast(int sheet) {
        Sheet row = sheetAt(sheet);
        if (row == null) {
            return error(BEYOND);
        }
        if (row.isMissing()) {
            return error(NONE);
        }
        if (firstWrong(row) >= 0 || now.troupe.night >= MOST_NIGHT) {
            return error(STATE);
        }
        now.troupe.play(row.numbers, now.claps, now.wage);
        return now.troupe.night;
    }

    public int nights(int n) {
        if (!isWithin(n, 1, MOST_SEASON)) {
            return error(BEYOND);
        }
        return playFirsts(now.troupe, Math.min(n, MOST_NIGHT - now.troupe.night));
    }

    public int loose(int n) {
        if (!isWithin(n, 1, MOST_LOOSE)) {
            return error(BEYOND);
        }
        Troupe troupe = now.troupe;
        if (troupe.night + n > MOST_NIGHT) {
            return error(STATE);
        }
        for (int i = 0; i < n; i++) {
            if (troupe.players > 0) {
                troupe.ill ^= 1 << now.draw() % troupe.players;
            }
            if (playFirsts(troupe, 1) == 0) {
                troupe.night++;
            }
        }
        return troupe.allPurses();
    }

    // ---- castings, what would be

    public int first(int part) {
        if (!now.troupe.hasPart(part)) {
            return error(BEYOND);
        }
        search.begin(now.troupe, 0);
        return search.goesOn() ? search.row[part] : error(NONE);
    }

    public int castings() {
        search.begin(now.troupe, 0);
        int many = 0;
        while (many < MOST_STEPS && search.goesOn()) {
            many++;
        }
        return many;
    }

    public int season() {
        return playFirsts(think(), MOST_SEASON);
    }

    public int then(int n, int player, int what) {
        if (!isWithin(n, 0, MOST_SEASON) || !now.troupe.hasPlayer(player) || !isWithin(what, 0, 2)) {
            return error(BEYOND);
        }
        Troupe behind = think();
        playFirsts(behind, n);
        switch (what) {
            case 0: return behind.knows[player];
            case 1: return behind.played[player];
            default: return behind.purse[player];
        }
    }

    public int learns(int player, int part) {
        if (!now.troupe.hasPlayer(player) || !now.troupe.hasPart(part)) {
            return error(BEYOND);
        }
        Troupe behind = think();
        for (int n = 0; n <= MOST_SEASON; n++) {
            if ((behind.knows[player] >> part & 1) == 1) {
                return n;
            }
            if (playFirsts(behind, 1) == 0) {
                return error(NONE);
            }
        }
        return error(NONE);
    }

    public int blocked() {
        int set = 0;
        for (int part = 0; part < now.troupe.parts; part++) {
            if (!now.troupe.isEmpty(part) && now.troupe.whoMay(part) == 0) {
                set |= 1 << part;
            }
        }
        return set;
    }

    public int idle() {
        int set = now.troupe.allPlayers();
        search.begin(now.troupe, 0);
        for (int i = 0; i < MOST_STEPS && set != 0 && search.goesOn(); i++) {
            set &= ~search.whoPlay();
        }
        return set;
    }

    public int changes(int sheet, int player) {
        Sheet row = sheetAt(sheet);
        if (row == null || !now.troupe.hasPlayer(player)) {
            return error(BEYOND);
        }
        if (row.isMissing() || row.length != now.troupe.parts) {
            return error(NONE);
        }
        int least = MOST_PARTS + 1;
        search.begin(now.troupe, 1 << player);
        for (int i = 0; i < MOST_STEPS && least > 0 && search.goesOn(); i++) {
            least = Math.min(least, search.unlike(row.numbers));
        }
        return least <= MOST_PARTS ? least : error(NONE);
    }

    public int tells(int players) {
        if (!isWithin(players, 0, now.troupe.allPlayers())) {
            return error(BEYOND);
        }
        int set = 0;
        for (int player = 0; player < now.troupe.players; player++) {
            if ((players >> player & 1) == 1) {
                set |= now.troupe.knows[player];
            }
        }
        return set;
    }

    public int fits(int sheet, int what) {
        Sheet purses = sheetAt(sheet);
        if (purses == null || !isWithin(what, -1, now.troupe.parts - 1)) {
            return error(BEYOND);
        }
        if (purses.isMissing() || purses.length != now.troupe.players) {
            return error(NONE);
        }
        fillWages();
        int many = 0;
        search.begin(now.troupe, 0);
        for (int i = 0; i < MOST_STEPS && search.goesOn(); i++) {
            if (paysAs(purses)) {
                if (what >= 0) {
                    return search.row[what];
                }
                many++;
            }
        }
        return what >= 0 ? error(NONE) : many;
    }

    public int spare(int parts) {
        if (!isWithin(parts, 0, now.troupe.allParts())) {
            return error(BEYOND);
        }
        if (now.troupe.players >= MOST_PLAYERS) {
            return error(FULL);
        }
        int without = playFirsts(think(), MOST_SEASON);
        Troupe more = think();
        more.addPlayer(-1, parts);
        return playFirsts(more, MOST_SEASON) - without;
    }

    // ---- draws, voices, sheets, images, what is told

    public int seed(int v) {
        int was = now.drawn;
        now.drawn = v;
        return was;
    }

    public int voice(int part, int act, int x) {
        if (!now.troupe.hasPart(part) || !isWithin(act, 0, ACTS - 1)) {
            return error(BEYOND);
        }
        return voices.raise(now.troupe.kind[part], part, now.troupe.mark[part], act, x);
    }

    public int trace(int i) {
        if (!isWithin(i, 0, voices.bodies.size - 1)) {
            return error(NONE);
        }
        return voices.bodies.items[i];
    }

    public int sheet(int sheet, int bits, int n) {
        Sheet row = sheetAt(sheet);
        if (row == null || bits != 0 && bits != 8 && bits != 16 && bits != 32) {
            return error(BEYOND);
        }
        if (bits != 0 && n < 0) {
            return error(STATE);
        }
        if (bits != 0 && n > MOST_NUMBERS) {
            return error(BEYOND);
        }
        row.renew(bits, bits == 0 ? 0 : n);
        return 1;
    }

    public int put(int sheet, int i, int v) {
        Sheet row = sheetAt(sheet);
        if (row == null) {
            return error(BEYOND);
        }
        if (row.isMissing()) {
            return error(NONE);
        }
        if (!isWithin(i, 0, row.length - 1)) {
            return error(BEYOND);
        }
        row.numbers[i] = row.lowest(v);
        return 1;
    }

    public int move(int sheet, int i, int other, int j, int n) {
        Sheet from = sheetAt(sheet);
        Sheet to = sheetAt(other);
        if (from == null || to == null) {
            return error(BEYOND);
        }
        if (from.isMissing() || to.isMissing()) {
            return error(NONE);
        }
        if (from.bits != to.bits) {
            return error(KIND);
        }
        if (!from.holds(i, n) || !to.holds(j, n)) {
            return error(BEYOND);
        }
        System.arraycopy(from.numbers, i, to.numbers, j, n);
        return n;
    }

    public int loads(int sheet) {
        Sheet row = sheetAt(sheet);
        if (row == null) {
            return error(BEYOND);
        }
        if (row.isMissing()) {
            return error(NONE);
        }
        int most = Math.min(row.length, now.troupe.parts);
        int done = 0;
        while (done < most && isWithin(row.numbers[done], 0, MOST_LINES)) {
            now.troupe.lines[done] = row.numbers[done];
            done++;
        }
        return done;
    }

    public int judge(int sheet) {
        Sheet row = sheetAt(sheet);
        if (row == null) {
            return error(BEYOND);
        }
        if (row.isMissing()) {
            return error(NONE);
        }
        return firstWrong(row);
    }

    public int image() {
        kept.copyFrom(now);
        images++;
        return images;
    }

    public int restore() {
        if (images == 0) {
            return error(NONE);
        }
        now.copyFrom(kept);
        return now.troupe.night;
    }

    public int tell(int v) {
        if (now.waiting.size >= MOST_WAITING) {
            return error(FULL);
        }
        now.waiting.add(v);
        return now.waiting.size;
    }

    public int check() {
        int answer = 0;
        Troupe behind = think();
        for (int i = 0; i < now.waiting.size && answer == 0; i++) {
            playFirsts(behind, 1);
            if (now.waiting.items[i] != behind.allPurses()) {
                answer = 1 + i;
            }
        }
        now.waiting.clear();
        return answer;
    }

    public int count(int what) {
        switch (what) {
            case 0: return now.troupe.parts;
            case 1: return now.troupe.players;
            case 2: return now.troupe.night;
            case 3: return now.troupe.gala;
            case 4: return now.troupe.allApplause();
            case 5: return now.troupe.allPurses();
            case 6: return now.troupe.ill;
            case 7: return now.tape.size;
            case 8: return now.waiting.size;
            case 9: return voices.bodies.size;
            case 10: return now.drawn;
            default: return error(BEYOND);
        }
    }

    public int told(int k) {
        return isWithin(k, 1, MOST_ERROR) ? errors[k] : error(BEYOND);
    }

    // ---- what the calls share

    private int error(int k) {
        errors[k]++;
        return LOW - k;
    }

    private static boolean isWithin(int v, int least, int most) {
        return v >= least && v <= most;
    }

    private static boolean isKindWithMark(int km) {
        return isWithin(km, 0, KINDS * 10 - 1);
    }

    private static boolean isUnder(int kind, int top) {
        int at = kind;
        for (int i = 0; i < KINDS && at >= 0 && at != top; i++) {
            at = ABOVE[at];
        }
        return at == top;
    }

    private static int swap(int[] row, int i, int v) {
        int was = row[i];
        row[i] = v;
        return was;
    }

    /** The sheet of a number; null: there is no such sheet. */
    private Sheet sheetAt(int sheet) {
        return isWithin(sheet, 0, SHEETS - 1) ? sheets[sheet] : null;
    }

    /** A copy of the troupe that may be played with; the next one overwrites it. */
    private Troupe think() {
        thought.copyFrom(now.troupe);
        return thought;
    }

    /** Plays nights with the first casting each, till there is none: how many. */
    private int playFirsts(Troupe troupe, int most) {
        for (int done = 0; done < most; done++) {
            search.begin(troupe, 0);
            if (!search.goesOn()) {
                return done;
            }
            troupe.play(search.row, now.claps, now.wage);
        }
        return most;
    }

    /** The first number with which a row is no casting; -1: it is one. */
    private int firstWrong(Sheet row) {
        Troupe troupe = now.troupe;
        int taken = 0;
        for (int part = 0; part < troupe.parts; part++) {
            if (part >= row.length || !isFree(part, row.numbers[part], taken)) {
                return part;
            }
            if (!troupe.isEmpty(part) && !troupe.isShared(part)) {
                taken |= 1 << row.numbers[part];
            }
        }
        return row.length > troupe.parts ? troupe.parts : -1;
    }

    /** Whether a part may have a player (-1: nobody), when some are taken by parts that share none. */
    private boolean isFree(int part, int player, int taken) {
        Troupe troupe = now.troupe;
        if (troupe.isEmpty(part)) {
            return player == -1;
        }
        if (!troupe.hasPlayer(player)) {
            return false;
        }
        int free = troupe.isShared(part) ? troupe.whoMay(part) : troupe.whoMay(part) & ~taken;
        return (free >> player & 1) == 1;
    }

    /** Worked out once ahead of a search, as they are the same for each casting. */
    private void fillWages() {
        for (int part = 0; part < now.troupe.parts; part++) {
            for (int player = 0; player < now.troupe.players; player++) {
                wages[part * MOST_PLAYERS + player] = now.troupe.wageFor(part, player, now.wage);
            }
        }
    }

    private boolean paysAs(Sheet purses) {
        for (int player = 0; player < now.troupe.players; player++) {
            int purse = now.troupe.purse[player];
            for (int part = 0; part < now.troupe.parts; part++) {
                if (search.row[part] == player) {
                    purse += wages[part * MOST_PLAYERS + player];
                }
            }
            if (Math.min(purse, MOST_PURSE) != purses.numbers[player]) {
                return false;
            }
        }
        return true;
    }

    /** Some numbers behind one another, in a room that never grows. */
    private static final class Row {
        final int[] items;
        int size;

        Row(int most) {
            items = new int[Math.max(most, 0)];
        }

        void add(int v) {
            if (size < items.length) {
                items[size] = v;
                size++;
            }
        }

        void clear() {
            size = 0;
        }

        void copyFrom(Row other) {
            size = Math.min(other.size, items.length);
            System.arraycopy(other.items, 0, items, 0, size);
        }
    }

    /** All that an image keeps. */
    private static final class Book {
        final Troupe troupe = new Troupe();
        final Law claps = new Law(CLAPS);
        final Law wage = new Law(WAGE);
        final Row tape = new Row(MOST_TAPE);
        final Row waiting = new Row(MOST_WAITING);
        int drawn = 1;

        Law lawOf(int use) {
            return use == CLAPS ? claps : wage;
        }

        int draw() {
            drawn = drawn * 1103515245 + 12345;
            return drawn >>> 8;
        }

        void copyFrom(Book other) {
            troupe.copyFrom(other.troupe);
            claps.copyFrom(other.claps);
            wage.copyFrom(other.wage);
            tape.copyFrom(other.tape);
            waiting.copyFrom(other.waiting);
            drawn = other.drawn;
        }
    }

    /** Parts and players, and the night that they stand before. */
    private static final class Troupe {
        int parts;
        final int[] kind = new int[MOST_PARTS];
        final int[] mark = new int[MOST_PARTS];
        final int[] lines = new int[MOST_PARTS];
        final int[] applause = new int[MOST_PARTS];
        int players;
        final int[] knows = new int[MOST_PLAYERS];
        final int[] played = new int[MOST_PLAYERS];
        final int[] own = new int[MOST_PLAYERS];
        final int[] purse = new int[MOST_PLAYERS];
        int ill;
        int gala;
        int night;

        void copyFrom(Troupe other) {
            parts = other.parts;
            System.arraycopy(other.kind, 0, kind, 0, MOST_PARTS);
            System.arraycopy(other.mark, 0, mark, 0, MOST_PARTS);
            System.arraycopy(other.lines, 0, lines, 0, MOST_PARTS);
            System.arraycopy(other.applause, 0, applause, 0, MOST_PARTS);
            players = other.players;
            System.arraycopy(other.knows, 0, knows, 0, MOST_PLAYERS);
            System.arraycopy(other.played, 0, played, 0, MOST_PLAYERS);
            System.arraycopy(other.own, 0, own, 0, MOST_PLAYERS);
            System.arraycopy(other.purse, 0, purse, 0, MOST_PLAYERS);
            ill = other.ill;
            gala = other.gala;
            night = other.night;
        }

        boolean hasPart(int part) {
            return part >= 0 && part < parts;
        }

        boolean hasPlayer(int player) {
            return player >= 0 && player < players;
        }

        int allParts() {
            return (1 << parts) - 1;
        }

        int allPlayers() {
            return (1 << players) - 1;
        }

        int addPart(int km, int linesToLearn) {
            int part = parts;
            if (part < MOST_PARTS) {
                shape(part, km);
                lines[part] = linesToLearn;
                parts++;
            }
            return part;
        }

        void shape(int part, int km) {
            kind[part] = km / 10;
            mark[part] = km % 10;
        }

        int addPlayer(int ownPart, int known) {
            int player = players;
            if (player < MOST_PLAYERS) {
                own[player] = ownPart;
                knows[player] = known;
                players++;
            }
            return player;
        }

        int swapIll(int player, int v) {
            int was = ill >> player & 1;
            ill = ill & ~(1 << player) | v << player;
            return was;
        }

        int whoKnow(int part) {
            return whoHold(knows, part);
        }

        private int whoHold(int[] sets, int part) {
            int set = 0;
            for (int player = 0; player < players; player++) {
                set |= (sets[player] >> part & 1) << player;
            }
            return set;
        }

        private int whoOwn(int part) {
            int set = 0;
            for (int player = 0; player < players; player++) {
                if (own[player] == part) {
                    set |= 1 << player;
                }
            }
            return set;
        }

        boolean isShared(int part) {
            return isUnder(kind[part], DOUBLED);
        }

        boolean isEmpty(int part) {
            return kind[part] == DEAD || kind[part] == GHOST && (night & 1) == 0;
        }

        int whoMay(int part) {
            int well = allPlayers() & ~ill;
            switch (kind[part]) {
                case SILENT: return well & ~whoHold(played, part);
                case DEAD: return 0;
                case SPLIT: return well & (lines[part] <= MOST_SPLIT_LINES ? whoStandIn(part) : whoHold(knows, part));
                case CAT: return well;
                case GHOST: return isEmpty(part) ? 0 : well & whoOwn(part);
                default: return well & whoStandIn(part);
            }
        }

        private int whoStandIn(int part) {
            if (gala == 1) {
                return whoOwn(part);
            }
            return whoHold(knows, part) & ~whoHold(played, part) & ~whoOwn(part);
        }

        int whatMay(int player) {
            int set = 0;
            for (int part = 0; part < parts; part++) {
                set |= (whoMay(part) >> player & 1) << part;
            }
            return set;
        }

        int allPurses() {
            int sum = 0;
            for (int player = 0; player < players; player++) {
                sum += purse[player];
            }
            return sum;
        }

        int allApplause() {
            int sum = 0;
            for (int part = 0; part < parts; part++) {
                sum += applause[part];
            }
            return sum;
        }

        int clapsFor(int part, Law claps) {
            return claps.gives(lines[part], mark[part], Integer.bitCount(whoKnow(part)));
        }

        int wageFor(int part, int player, Law wage) {
            return wage.gives(lines[part], Integer.bitCount(played[player]), night);
        }

        /** All is paid before anybody learns, as texts read what was ahead of the night. */
        void play(int[] row, Law claps, Law wage) {
            for (int part = 0; part < parts; part++) {
                int player = row[part];
                if (hasPlayer(player)) {
                    applause[part] = Math.min(applause[part] + clapsFor(part, claps), MOST_APPLAUSE);
                    purse[player] = Math.min(purse[player] + wageFor(part, player, wage), MOST_PURSE);
                }
            }
            for (int player = 0; player < players; player++) {
                learnFrom(player, partsIn(row, player));
            }
            gala = 0;
            night++;
        }

        private int partsIn(int[] row, int player) {
            int set = 0;
            for (int part = 0; part < parts; part++) {
                if (row[part] == player) {
                    set |= 1 << part;
                }
            }
            return set;
        }

        private void learnFrom(int player, int tonight) {
            played[player] |= tonight;
            knows[player] |= (tonight << 1 | tonight >> 1) & allParts();
        }
    }

    /** Goes through the castings of a troupe, the least row first. */
    private static final class Castings {
        /** Sets in here have bit 0 for nobody (-1), and bit 1 + p for player p. */
        private static final int NOBODY = 1;

        final int[] row = new int[MOST_PARTS];
        private final int[] may = new int[MOST_PARTS];
        private final int[] left = new int[MOST_PARTS];
        private final boolean[] alone = new boolean[MOST_PARTS];
        private final int[] taken = new int[MOST_PARTS + 1];
        private int parts;
        private int at;
        private boolean fresh;

        void begin(Troupe troupe, int without) {
            parts = troupe.parts;
            for (int part = 0; part < parts; part++) {
                boolean empty = troupe.isEmpty(part);
                may[part] = empty ? NOBODY : (troupe.whoMay(part) & ~without) << 1;
                alone[part] = !empty && !troupe.isShared(part);
            }
            at = 0;
            fresh = true;
            left[0] = may[0];
            taken[0] = 0;
        }

        /** Whether there is one more casting; row is it, then. */
        boolean goesOn() {
            if (!fresh) {
                at = parts - 1;
            }
            fresh = false;
            for (int i = 0; i < MOST_STEPS && at >= 0 && at < parts; i++) {
                step();
            }
            return at == parts;
        }

        private void step() {
            int bit = left[at] & -left[at];
            if (bit == 0) {
                at--;
                return;
            }
            left[at] &= ~bit;
            row[at] = Integer.bitCount(bit - 1) - 1;
            taken[at + 1] = taken[at] | (alone[at] ? bit : 0);
            at++;
            if (at < parts) {
                left[at] = may[at] & ~(alone[at] ? taken[at] : 0);
            }
        }

        int whoPlay() {
            int set = 0;
            for (int part = 0; part < parts; part++) {
                if (row[part] >= 0) {
                    set |= 1 << row[part];
                }
            }
            return set;
        }

        int unlike(int[] other) {
            int many = 0;
            for (int part = 0; part < parts; part++) {
                if (row[part] != other[part]) {
                    many++;
                }
            }
            return many;
        }
    }

    /**
     * What a use gives. Code has operators behind what they work on: a number as it is, a name as -1 less its
     * place, an operator as its sign below 0.
     */
    private static final class Law {
        private static final int MOST_CLAPS = 999;
        private static final int MOST_WAGE = 99;

        private final int use;
        private final Row code = new Row(MOST_TAPE);
        private final Row stack = new Row(MOST_TAPE);

        Law(int use) {
            this.use = use;
        }

        void write(Row newCode) {
            code.copyFrom(newCode);
        }

        void copyFrom(Law other) {
            code.copyFrom(other.code);
        }

        int gives(int a, int b, int c) {
            int most = use == CLAPS ? MOST_CLAPS : MOST_WAGE;
            int v = code.size == 0 ? withoutText(a, c) : worked(a, b, c);
            return Math.max(0, Math.min(v, most));
        }

        private int withoutText(int a, int c) {
            return use == CLAPS ? a + c : 1 + a / 10;
        }

        private int worked(int a, int b, int c) {
            stack.clear();
            for (int i = 0; i < code.size; i++) {
                int item = code.items[i];
                int top = stack.size - 1;
                if (item >= 0) {
                    stack.add(item);
                } else if (item >= -3) {
                    stack.add(item == -1 ? a : item == -2 ? b : c);
                } else if (item == -'!' && top >= 0) {
                    stack.items[top] = stack.items[top] == 0 ? 1 : 0;
                } else if (top >= 1) {
                    stack.items[top - 1] = joined(-item, stack.items[top - 1], stack.items[top]);
                    stack.size = top;
                }
            }
            return stack.size > 0 ? stack.items[0] : 0;
        }

        private static int joined(int sign, int a, int b) {
            switch (sign) {
                case '|': return a != 0 || b != 0 ? 1 : 0;
                case '&': return a != 0 && b != 0 ? 1 : 0;
                case '<': return a < b ? 1 : 0;
                case '=': return a == b ? 1 : 0;
                case '>': return a > b ? 1 : 0;
                case '+': return a + b;
                case '-': return a - b;
                case '*': return a * b;
                case '/': return b == 0 ? 0 : a / b;
                default: return b == 0 ? 0 : a % b;
            }
        }
    }

    /** Reads a tape as a text, and writes its code. */
    private static final class Reader {
        private static final String CLAPS_NAMES = "lmk";
        private static final String WAGE_NAMES = "lpn";
        private static final int MOST_OPEN = 5;
        private static final int MOST_DIGITS = 4;
        private static final int COMPARISONS = 2;
        private static final int SINGLES = 5;

        final Row code = new Row(MOST_TAPE);
        /** The byte that comes next; the fault, if the tape is no text. */
        int place;
        private final Row bytes = new Row(MOST_TAPE);
        private String names = CLAPS_NAMES;

        boolean reads(int use, Row tape) {
            bytes.copyFrom(tape);
            names = use == CLAPS ? CLAPS_NAMES : WAGE_NAMES;
            place = 0;
            code.clear();
            return readLevel(0, 0) && place == bytes.size;
        }

        private int sign() {
            return place < bytes.size ? bytes.items[place] : -1;
        }

        private static int levelOf(int sign) {
            switch (sign) {
                case '|': return 0;
                case '&': return 1;
                case '<': case '=': case '>': return COMPARISONS;
                case '+': case '-': return 3;
                case '*': case '/': case '%': return 4;
                default: return -1;
            }
        }

        private boolean readLevel(int level, int open) {
            if (level >= SINGLES) {
                return readSingle(open);
            }
            if (!readLevel(level + 1, open)) {
                return false;
            }
            int most = level == COMPARISONS ? 1 : MOST_TAPE;
            for (int i = 0; i < most && levelOf(sign()) == level; i++) {
                int operator = sign();
                place++;
                if (!readLevel(level + 1, open)) {
                    return false;
                }
                code.add(-operator);
            }
            return true;
        }

        private boolean readSingle(int open) {
            int sign = sign();
            if (isDigit(sign)) {
                readNumber();
                return true;
            }
            if (sign == '!' || sign == '(') {
                return open < MOST_OPEN && readOpened(sign, open + 1);
            }
            return readName(sign);
        }

        private boolean readOpened(int sign, int open) {
            place++;
            if (sign == '!') {
                boolean good = readSingle(open);
                code.add(-sign);
                return good;
            }
            if (!readLevel(0, open) || sign() != ')') {
                return false;
            }
            place++;
            return true;
        }

        private void readNumber() {
            int number = 0;
            for (int i = 0; i < MOST_DIGITS && isDigit(sign()); i++) {
                number = number * 10 + sign() - '0';
                place++;
            }
            code.add(number);
        }

        private boolean readName(int sign) {
            int name = sign < 0 ? -1 : names.indexOf((char) sign);
            if (name < 0) {
                return false;
            }
            place++;
            code.add(-1 - name);
            return true;
        }

        private static boolean isDigit(int sign) {
            return sign >= '0' && sign <= '9';
        }
    }

    /** The voices of a part, and the bodies that began in the latest. */
    private static final class Voices {
        /** The body of each kind (in rows of four) for each act; 0: the kind has none. */
        private static final int[] BODIES = {
            10, 11, 12, 13,
            0, 20, 0, 0,
            30, 0, 0, 0,
            0, 0, 40, 0,
            0, 50, 0, 0,
            0, 0, 0, 60,
            0, 0, 70, 71
        };
        private static final int MOST_DEPTH = 40;

        final Row bodies = new Row(MOST_TRACE);
        private int kind;
        private int number;
        private int mark;

        int raise(int ofKind, int ofNumber, int ofMark, int act, int x) {
            kind = ofKind;
            number = ofNumber;
            mark = ofMark;
            bodies.clear();
            return own(act, x, 0);
        }

        private int own(int act, int x, int depth) {
            return from(kind, act, x, depth);
        }

        private int from(int top, int act, int x, int depth) {
            int at = top;
            for (int i = 0; i < KINDS && at >= 0; i++) {
                int body = BODIES[at * ACTS + act];
                if (body != 0) {
                    return begun(body, at, x, depth + 1);
                }
                at = ABOVE[at];
            }
            return 0;
        }

        private int begun(int body, int bodyKind, int x, int depth) {
            if (depth > MOST_DEPTH) {
                return 0;
            }
            bodies.add(body);
            int above = ABOVE[bodyKind];
            switch (body) {
                case 10: return x + number;
                case 11: return own(SPEAKS, x, depth) * 2;
                case 12: return x - mark;
                case 13: return own(ENTERS, x, depth) ^ own(FALLS, x, depth);
                case 20: return from(above, ENTERS, x, depth) - own(FALLS, 1, depth);
                case 30: return from(above, SPEAKS, x, depth) * 3;
                case 40: return -from(above, FALLS, x, depth);
                case 50: return from(above, ENTERS, x + 1, depth);
                case 60: return from(above, TELLS, x, depth) - own(SPEAKS, 2, depth);
                case 70: return from(above, FALLS, x, depth) ^ number;
                case 71: return own(ENTERS, x, depth) - from(above, TELLS, x, depth);
                default: return 0;
            }
        }
    }

    /** A row of numbers of so many bits each; of 0 bits: it is missing. */
    private static final class Sheet {
        int bits;
        int length;
        final int[] numbers = new int[MOST_NUMBERS];

        boolean isMissing() {
            return bits == 0;
        }

        void renew(int newBits, int newLength) {
            bits = newBits;
            length = newLength;
            for (int i = 0; i < MOST_NUMBERS; i++) {
                numbers[i] = 0;
            }
        }

        int lowest(int v) {
            return bits == 8 ? (byte) v : bits == 16 ? (short) v : v;
        }

        boolean holds(int i, int n) {
            return i >= 0 && n >= 0 && n <= length && i <= length - n;
        }
    }
}
