/** Each sentence of the Terms by its own cases: the ends of what is taken, what is empty, full, held, or wraps. */
public final class TermsTest {
    private static final int BEYOND = Due.BEYOND;
    private static final int NONE = Due.NONE;
    private static final int STATE = Due.STATE;
    private static final int FULL = Due.FULL;
    private static final int KIND = Due.KIND;
    private static final int MIN = Integer.MIN_VALUE;
    private static final int MAX = Integer.MAX_VALUE;
    private static final Due DUE = new Due();

    private static void due(String call, long got, long want) {
        DUE.due(call, got, want);
    }

    public static void main(String[] args) {
        errors();
        limits();
        kindTree();
        may();
        mayOfIll();
        mayOfMany();
        empties();
        sharedByTwo();
        sharedByThree();
        firstIsLeast();
        applauseHeld();
        purseHeld();
        purseHeldWithinANight();
        nothingLessThanNothing();
        asTheyAreAhead();
        namesAtTheirEnds();
        learntBeside();
        learntFromTonight();
        galaIsOver();
        nightIsOneMore();
        firstBytes();
        nextBytes();
        numbers();
        openAtOnce();
        longTexts();
        tooEarly();
        orderOfOperators();
        wraps();
        quotients();
        truths();
        heldUses();
        withoutTexts();
        seasons();
        beyondTheLastNight();
        ghostsBeyondTheLastNight();
        pursesThatFit();
        spareNights();
        draws();
        manyDraws();
        nightsByDraws();
        voicesThatWrap();
        traces();
        sheets();
        DUE.end();
    }

    // ---- errors, 1: parts, players

    private static void errors() {
        UnderstudyHouse x = new UnderstudyHouse();
        due("BEYOND", x.ofPart(0, 0), -1000000000 - 1);
        due("NONE", x.restore(), -1000000000 - 2);
        due("STATE", x.sheet(0, 8, -1), -1000000000 - 3);
        for (int i = 0; i < 5; i++) {
            x.part(0, 0);
        }
        due("FULL", x.part(0, 0), -1000000000 - 4);
        due("KIND", x.as(0, 1), -1000000000 - 5);
        for (int k = 1; k <= 5; k++) {
            due("told " + k, x.told(k), 1);
        }
    }

    private static void limits() {
        UnderstudyHouse x = new UnderstudyHouse();
        for (int part = 0; part < 5; part++) {
            due("parts have the next number", x.part(0, 0), part);
        }
        due("at most 5 parts", x.part(0, 0), FULL);
        for (int player = 0; player < 6; player++) {
            due("players have the next number", x.player(-1), player);
        }
        due("at most 6 players", x.player(-1), FULL);
        for (int what = 0; what <= 1; what++) {
            due("a player's set is empty at first", x.ofPlayer(5, what), 0);
        }
        due("no own at first", x.ofPlayer(5, 2), -1);
        due("no purse at first", x.ofPlayer(5, 3), 0);
        due("not ill at first", x.ofPlayer(5, 4), 0);
        due("no applause at first", x.ofPart(4, 3), 0);
        due("no gala at first", x.count(3), 0);
        due("night 0 at first", x.count(2), 0);
    }

    private static void kindTree() {
        int[][] over = {{0}, {1, 0}, {2, 0}, {3, 0}, {4, 1, 0}, {5, 2, 0}, {6, 3, 0}};
        for (int kind = 0; kind < 7; kind++) {
            UnderstudyHouse x = House.of(kind * 10 + 8);
            int[] answers = {KIND, KIND, KIND, KIND, KIND, KIND, KIND};
            for (int above : over[kind]) {
                answers[above] = 8;
            }
            for (int as = 0; as < 7; as++) {
                due("kind " + kind + " as " + as, x.as(0, as), answers[as]);
            }
        }
    }

    private static boolean mayByWords(int kind, boolean gala, boolean odd, int lines, boolean[] is) {
        boolean knows = is[0];
        boolean played = is[1];
        boolean own = is[2];
        boolean asPart = gala ? own : knows && !played && !own;
        switch (kind) {
            case 0: case 1: return asPart;
            case 2: return !played;
            case 3: return false;
            case 4: return lines <= 50 ? asPart : knows;
            case 5: return true;
            default: return odd && own;
        }
    }

    /** Every kind, on a gala or not, at an even or an odd night, around 50 lines, for everything a player can be. */
    private static void may() {
        for (int kind = 0; kind < 7; kind++) {
            for (int set = 0; set < 32; set++) {
                boolean gala = (set & 1) != 0;
                boolean odd = (set & 2) != 0;
                boolean[] is = {(set & 4) != 0, (set & 8) != 0, (set & 16) != 0};
                for (int lines : new int[] {0, 49, 50, 51, 99}) {
                    UnderstudyHouse x = House.old(odd ? 1 : 0);
                    x.part(kind * 10, lines);
                    x.player(is[2] ? 0 : -1);
                    x.change(0, 0, is[0] ? 1 : 0);
                    x.change(0, 1, is[1] ? 1 : 0);
                    x.gala(gala ? 1 : 0);
                    boolean empty = kind == 3 || kind == 6 && !odd;
                    String name = "kind " + kind + " lines " + lines + " set " + set;
                    askMay(name, x, mayByWords(kind, gala, odd, lines, is), empty);
                }
            }
        }
    }

    private static void askMay(String name, UnderstudyHouse x, boolean may, boolean empty) {
        boolean good = may || empty;
        due(name + ": may", x.ofPart(0, 5), may ? 1 : 0);
        due(name + ": the player may", x.ofPlayer(0, 5), may ? 1 : 0);
        due(name + ": empty", x.ofPart(0, 4), empty ? 1 : 0);
        due(name + ": blocked", x.blocked(), good ? 0 : 1);
        due(name + ": castings", x.castings(), good ? 1 : 0);
        due(name + ": first", x.first(0), good ? (empty ? -1 : 0) : NONE);
        due(name + ": idle", x.idle(), may ? 0 : 1);
        Due.row(x, 0, 8, 0);
        due(name + ": judge", x.judge(0), may ? -1 : 0);
        Due.row(x, 0, 8, -1);
        due(name + ": judge of nobody", x.judge(0), empty ? -1 : 0);
    }

    private static void mayOfIll() {
        for (int kind = 0; kind < 7; kind++) {
            UnderstudyHouse x = House.old(1);
            x.part(kind * 10, 60);
            x.player(kind == 6 ? 0 : -1);
            x.change(0, 0, 1);
            due("one who is well may, of kind " + kind, x.ofPart(0, 5), kind == 3 ? 0 : 1);
            x.change(0, 3, 1);
            due("one who is ill may not, of kind " + kind, x.ofPart(0, 5), 0);
            due("nor by what he may, of kind " + kind, x.ofPlayer(0, 5), 0);
            x.change(0, 3, 0);
            due("one who is well again may, of kind " + kind, x.ofPart(0, 5), kind == 3 ? 0 : 1);
        }
    }

    /** Of six players, three are engaged as part 1, two of them know it; all others know it, too. */
    private static void mayOfMany() {
        int[][] rows = {{0, 52, 11}, {10, 52, 11}, {20, 63, 63}, {30, 0, 0}, {40, 52, 11}, {50, 63, 63}, {60, 11, 11}};
        for (int[] row : rows) {
            UnderstudyHouse x = House.parts(House.old(1), 30, row[0]);
            int[] owns = {1, 1, -1, 1, 0, -1};
            for (int own : owns) {
                int player = x.player(own);
                x.change(player, 0, 2);
            }
            x.change(3, 0, 0);
            due("of six may play kind " + row[0], x.ofPart(1, 5), row[1]);
            x.gala(1);
            due("of six on a gala may play kind " + row[0], x.ofPart(1, 5), row[2]);
            for (int player = 0; player < 6; player++) {
                due("he may", x.ofPlayer(player, 5), (row[2] >> player & 1) * 2);
            }
        }
    }

    private static void empties() {
        UnderstudyHouse x = House.of(30, 60, 0);
        int[] due = {1, 1, 0};
        for (int part = 0; part < 3; part++) {
            due("empty at night 0: " + part, x.ofPart(part, 4), due[part]);
        }
        UnderstudyHouse y = House.parts(House.old(1), 30, 60, 0);
        due("the dead at night 1", y.ofPart(0, 4), 1);
        due("a ghost at night 1", y.ofPart(1, 4), 0);
        due("a ghost of nobody is not empty, but blocked", y.blocked(), 6);
        UnderstudyHouse z = House.parts(House.old(9998), 60);
        due("a ghost at night 9998", z.ofPart(0, 4), 1);
        due("a night", z.nights(1), 1);
        due("a ghost at night 9999", z.ofPart(0, 4), 0);
    }

    /** One player for two parts of each kinds, at an odd night, so that a ghost's own may play. */
    private static void sharedByTwo() {
        for (int a = 0; a < 7; a++) {
            for (int b = 0; b < 7; b++) {
                UnderstudyHouse x = House.parts(House.old(1), a * 10, b * 10);
                x.player(a == 6 ? 0 : b == 6 ? 1 : -1);
                x.change(0, 0, 3);
                boolean doubled = a == 1 || a == 4 || b == 1 || b == 4;
                boolean dead = a == 3 || b == 3;
                boolean ghosts = a == 6 && b == 6;
                String name = "one for kinds " + a + " and " + b;
                due(name, x.castings(), (doubled || dead) && !ghosts ? 1 : 0);
                Due.row(x, 0, 8, a == 3 ? -1 : 0, b == 3 ? -1 : 0);
                due(name + ": judge", x.judge(0), doubled || dead ? -1 : 1);
            }
        }
    }

    private static void sharedByThree() {
        int[][] rows = {
            {10, 10, 10, 1}, {0, 10, 10, 1}, {10, 0, 40, 1}, {40, 10, 20, 1}, {0, 10, 0, 0}, {0, 0, 10, 0}, {10, 0, 0, 0},
            {20, 50, 10, 0}, {50, 30, 10, 1}, {50, 30, 20, 0}
        };
        for (int[] row : rows) {
            UnderstudyHouse x = House.of(row[0], row[1], row[2]);
            House.players(x, 7);
            due("one for " + row[0] + " " + row[1] + " " + row[2], x.castings(), row[3]);
        }
        UnderstudyHouse all = House.of(10, 40, 10, 40, 10);
        House.players(all, 31);
        due("one for five", all.castings(), 1);
    }

    private static void firstIsLeast() {
        UnderstudyHouse x = House.of(0, 0);
        House.players(x, 3, 1);
        due("0 is kept for whom nobody else can play", x.first(0), 1);
        due("by 0", x.first(1), 0);
        UnderstudyHouse y = House.of(30, 0, 0, 0, 30);
        House.players(y, 14, 14, 2);
        int[] due = {-1, 2, 0, 1, -1};
        for (int part = 0; part < 5; part++) {
            due("first of " + part, y.first(part), due[part]);
        }
        due("two of them", y.castings(), 2);
        UnderstudyHouse z = House.of(50, 50, 50, 50, 50);
        House.players(z, 0, 0, 0, 0, 0, 0);
        for (int part = 0; part < 5; part++) {
            due("the least of many, of " + part, z.first(part), part);
        }
        due("many", z.castings(), 720);
    }

    // ---- 1: a night

    /** A cat that one player plays each night, after a hundred nights of the most. */
    private static UnderstudyHouse rewarded() {
        UnderstudyHouse x = House.of(50);
        House.players(x, 0);
        Due.text(x, 0, "999");
        Due.text(x, 1, "99");
        x.nights(60);
        x.nights(40);
        return x;
    }

    private static void applauseHeld() {
        UnderstudyHouse x = rewarded();
        due("applause", x.ofPart(0, 3), 99900);
        String[] texts = {"98", "1", "1", "0", "999"};
        int[] due = {99998, 99999, 99999, 99999, 99999};
        for (int i = 0; i < texts.length; i++) {
            Due.text(x, 0, texts[i]);
            x.nights(1);
            due("applause by " + texts[i], x.ofPart(0, 3), due[i]);
            due("all applause by " + texts[i], x.count(4), due[i]);
        }
        UnderstudyHouse y = rewarded();
        y.nights(1);
        due("99900 and 999 are held", y.ofPart(0, 3), 99999);
    }

    private static void purseHeld() {
        UnderstudyHouse x = rewarded();
        due("purse", x.ofPlayer(0, 3), 9900);
        String[] texts = {"98", "1", "1", "0", "99"};
        int[] due = {9998, 9999, 9999, 9999, 9999};
        for (int i = 0; i < texts.length; i++) {
            Due.text(x, 1, texts[i]);
            due("behind it, by " + texts[i], x.then(1, 0, 2), due[i]);
            x.nights(1);
            due("purse by " + texts[i], x.ofPlayer(0, 3), due[i]);
            due("all purses by " + texts[i], x.count(5), due[i]);
        }
        UnderstudyHouse y = rewarded();
        Due.text(y, 1, "98");
        y.nights(1);
        Due.text(y, 1, "99");
        Due.row(y, 0, 32, 9999);
        due("9998 and 99 are held, as purses that fit", y.fits(0, -1), 1);
        Due.row(y, 0, 32, 9998 + 99);
        due("never more", y.fits(0, -1), 0);
        y.tell(9999);
        y.tell(9999);
        due("held in what is told", y.check(), 0);
    }

    /** Two split parts that one player plays each night: twice 99. */
    private static void purseHeldWithinANight() {
        UnderstudyHouse x = new UnderstudyHouse();
        x.part(40, 51);
        x.part(40, 51);
        House.players(x, 3);
        Due.text(x, 1, "99");
        due("50 nights", x.nights(50), 50);
        due("purse", x.ofPlayer(0, 3), 9900);
        Due.row(x, 0, 16, 9999);
        due("fits when held", x.fits(0, -1), 1);
        due("a night more", x.nights(1), 1);
        due("held", x.ofPlayer(0, 3), 9999);
    }

    private static void nothingLessThanNothing() {
        UnderstudyHouse x = House.of(50);
        House.players(x, 0);
        Due.text(x, 0, "0-1");
        Due.text(x, 1, "0-1");
        due("a night", x.nights(1), 1);
        due("no applause below 0", x.ofPart(0, 3), 0);
        due("no purse below 0", x.ofPlayer(0, 3), 0);
        Due.text(x, 0, "7");
        Due.text(x, 1, "8");
        x.nights(1);
        Due.text(x, 0, "0-1");
        Due.text(x, 1, "0-1");
        x.nights(1);
        due("applause is never less", x.ofPart(0, 3), 7);
        due("a purse is never less", x.ofPlayer(0, 3), 8);
    }

    private static void asTheyAreAhead() {
        UnderstudyHouse x = House.of(50, 50);
        House.players(x, 0, 0);
        Due.text(x, 0, "k");
        Due.text(x, 1, "n");
        x.nights(1);
        due("none knew it ahead", x.ofPart(0, 3) + x.ofPart(1, 3), 0);
        due("it was night 0", x.count(5), 0);
        x.nights(1);
        due("one knew it ahead", x.ofPart(0, 3), 1);
        due("one knew the other ahead", x.ofPart(1, 3), 1);
        due("it was night 1", x.ofPlayer(0, 3), 1);
        UnderstudyHouse y = new UnderstudyHouse();
        y.part(40, 51);
        y.part(40, 51);
        House.players(y, 3);
        Due.text(y, 1, "p");
        y.nights(1);
        due("had played none, for both", y.ofPlayer(0, 3), 0);
        y.nights(1);
        due("had played two, for both", y.ofPlayer(0, 3), 4);
    }

    /** What l, m, k, p can be at least and at most on a night. */
    private static void namesAtTheirEnds() {
        UnderstudyHouse x = new UnderstudyHouse();
        x.part(50, 0);
        x.part(59, 99);
        House.players(x, 2, 2, 2, 2, 2, 2);
        x.change(5, 3, 1);
        Due.text(x, 0, "l*9+m*10+k");
        Due.text(x, 1, "l");
        x.nights(1);
        due("no lines, m 0, known by none", x.ofPart(0, 3), 0);
        due("99 lines, m 9, known by all six", x.ofPart(1, 3), 99 * 9 + 90 + 6);
        due("a wage by no lines", x.ofPlayer(0, 3), 0);
        due("a wage by 99 lines", x.ofPlayer(1, 3), 99);
        UnderstudyHouse y = House.of(50, 30, 30, 30, 30);
        House.players(y, 0);
        y.change(0, 1, 31);
        Due.text(y, 1, "p");
        y.nights(1);
        due("a wage by all five that he played", y.ofPlayer(0, 3), 5);
    }

    /** One cat among the dead, played by a player who knows nothing: what he knows then. */
    private static void learntBeside() {
        int[][] rows = {{0, 1, 0}, {0, 2, 2}, {1, 2, 1}, {0, 5, 2}, {4, 5, 8}, {2, 5, 10}, {3, 5, 20}, {1, 5, 5}};
        for (int[] row : rows) {
            UnderstudyHouse x = new UnderstudyHouse();
            for (int part = 0; part < row[1]; part++) {
                x.part(part == row[0] ? 50 : 30, 0);
            }
            House.players(x, 0, 0);
            due("behind a night of part " + row[0] + " of " + row[1], x.then(1, 0, 0), row[2]);
            x.nights(1);
            due("after a night of part " + row[0] + " of " + row[1], x.ofPlayer(0, 0), row[2]);
            due("he has played it", x.ofPlayer(0, 1), 1 << row[0]);
            due("who did not play learns nothing", x.ofPlayer(1, 0), 0);
            due("nor has he played", x.ofPlayer(1, 1), 0);
        }
        UnderstudyHouse y = House.of(50);
        House.players(y, 0);
        y.nights(1);
        y.part(30, 0);
        due("a part that came later is not known", y.ofPlayer(0, 0), 0);
        y.change(0, 0, 1);
        y.nights(1);
        due("what was known stays", y.ofPlayer(0, 0), 3);
    }

    private static void learntFromTonight() {
        UnderstudyHouse x = House.of(50, 30, 30, 30, 30);
        House.players(x, 0);
        x.change(0, 1, 8);
        x.nights(1);
        due("beside tonight's part alone", x.ofPlayer(0, 0), 2);
        due("played", x.ofPlayer(0, 1), 9);
    }

    private static UnderstudyHouse onGala() {
        UnderstudyHouse x = House.of(50);
        House.players(x, 0);
        x.gala(1);
        return x;
    }

    private static void galaIsOver() {
        UnderstudyHouse x = onGala();
        Due.row(x, 0, 8, 0);
        x.cast(0);
        due("by cast", x.count(3), 0);
        UnderstudyHouse y = onGala();
        y.nights(1);
        due("by nights", y.count(3), 0);
        UnderstudyHouse z = onGala();
        z.player(-1);
        z.loose(1);
        due("by loose", z.count(3), 0);
        UnderstudyHouse none = House.of(50);
        none.gala(1);
        due("no night", none.nights(1), 0);
        due("not by no night", none.count(3), 1);
        none.loose(1);
        due("not by a loose one without a casting", none.count(3), 1);
        UnderstudyHouse two = House.of(0);
        two.player(0);
        House.players(two, 1);
        two.gala(1);
        due("a gala, then a night that is none", two.season(), 2);
        due("on the gala his own", two.first(0), 0);
    }

    private static void nightIsOneMore() {
        UnderstudyHouse x = onGala();
        Due.row(x, 0, 8, 0);
        due("by cast", x.cast(0), 1);
        x.nights(1);
        due("by nights", x.count(2), 2);
        x.loose(2);
        due("by two loose ones, the first without a casting", x.count(2), 4);
    }

    // ---- 2: texts

    private static final String[] NAMES = {"lmk", "lpn"};
    private static final String OPERATORS = "|&<=>+-*/%";

    private static int fault(int place) {
        return -10 - place;
    }

    private static void firstBytes() {
        for (int use = 0; use <= 1; use++) {
            for (char sign = 0; sign < 256; sign++) {
                boolean single = sign >= '0' && sign <= '9' || NAMES[use].indexOf(sign) >= 0;
                boolean opens = sign == '!' || sign == '(';
                int due = single ? 1 : fault(opens ? 1 : 0);
                String name = "use " + use + ", byte " + (int) sign;
                UnderstudyHouse x = new UnderstudyHouse();
                due(name + " first", Due.text(x, use, "" + sign), due);
                for (String ahead : new String[] {"l+", "l<", "l|", "l&", "l*", "(", "!", "(l)%"}) {
                    int at = ahead.length();
                    String text = ahead + sign + (ahead.equals("(") ? ")" : "");
                    due(name + " behind " + ahead, Due.text(x, use, text), single ? 1 : fault(opens ? at + 1 : at));
                }
            }
        }
    }

    private static void nextBytes() {
        for (int use = 0; use <= 1; use++) {
            for (char sign = 0; sign < 256; sign++) {
                boolean digit = sign >= '0' && sign <= '9';
                boolean operator = OPERATORS.indexOf(sign) >= 0;
                boolean compares = sign == '<' || sign == '=' || sign == '>';
                String name = "use " + use + ", byte " + (int) sign + " behind ";
                UnderstudyHouse x = new UnderstudyHouse();
                due(name + "l", Due.text(x, use, "l" + sign), fault(operator ? 2 : 1));
                due(name + "1", Due.text(x, use, "1" + sign), digit ? 1 : fault(operator ? 2 : 1));
                due(name + "123", Due.text(x, use, "123" + sign), digit ? 1 : fault(operator ? 4 : 3));
                due(name + "1234", Due.text(x, use, "1234" + sign), fault(operator ? 5 : 4));
                due(name + "(l)", Due.text(x, use, "(l)" + sign), fault(operator ? 4 : 3));
                due(name + "(l", Due.text(x, use, "(l" + sign), sign == ')' ? 1 : fault(operator ? 3 : 2));
                due(name + "!l", Due.text(x, use, "!l" + sign), fault(operator ? 3 : 2));
                due(name + "1<l", Due.text(x, use, "1<l" + sign), fault(operator && !compares ? 4 : 3));
                due(name + "1=l+l", Due.text(x, use, "1=l+l" + sign), fault(operator && !compares ? 6 : 5));
                due(name + "1>l&l", Due.text(x, use, "1>l&l" + sign), fault(operator ? 6 : 5));
                due(name + "1>(l<l)", Due.text(x, use, "1>(l<l)" + sign), fault(operator && !compares ? 8 : 7));
                due(name + "(1>l)", Due.text(x, use, "(1>l)" + sign), fault(operator ? 6 : 5));
            }
        }
    }

    private static void numbers() {
        String[] texts = {"0", "9", "10", "99", "100", "998", "999", "0999", "0000", "0001"};
        int[] due = {0, 9, 10, 99, 100, 998, 999, 999, 0, 1};
        UnderstudyHouse x = new UnderstudyHouse();
        for (int i = 0; i < texts.length; i++) {
            due("number " + texts[i], Due.text(x, 0, texts[i]), 1);
            due("is", x.law(0, 5, 6, 7), due[i]);
        }
        due("1000", Due.text(x, 0, "1000-l"), 1);
        due("is", x.law(0, 200, 0, 0), 800);
        due("9999", Due.text(x, 0, "9999-l"), 1);
        due("is", x.law(0, 9000, 0, 0), 999);
        due("is", x.law(0, 9001, 0, 0), 998);
        due("five digits", Due.text(x, 0, "00000"), fault(4));
        due("no digit", Due.text(x, 0, "1+"), fault(2));
    }

    private static void openAtOnce() {
        String[] good = {
            "!!!!!1", "(((((1)))))", "(!(!(1)))", "!(!(!1))", "(((((1)))))+(((((l)))))", "!!!!!1*!!!!!l",
            "((((!1+!l))))", "((((!1+(l)))))", "(((((1)+l))))*(((((1)))))", "!!!!(1)|!!!!(1)"
        };
        UnderstudyHouse x = new UnderstudyHouse();
        for (String text : good) {
            due("five open in " + text, Due.text(x, 0, text), 1);
        }
        String[] bad = {
            "!!!!!!1", "((((((1))))))", "!!!!!(1)", "(((((!1)))))", "(!(!(!1)))", "(!(!((1))))", "((((!(1)))))", "((((!!1))))",
            "1+!!!!!!1", "(((((1)))))+((((((1))))))", "((((!1+!!1))))"
        };
        int[] faults = {5, 5, 5, 5, 5, 5, 5, 5, 7, 17, 8};
        for (int i = 0; i < bad.length; i++) {
            due("six open in " + bad[i], Due.text(x, 0, bad[i]), fault(faults[i]));
        }
    }

    private static void longTexts() {
        UnderstudyHouse x = new UnderstudyHouse();
        String text = "1+".repeat(24) + "1";
        due("49 bytes", Due.text(x, 0, text), 1);
        due("is", x.law(0, 0, 0, 0), 25);
        due("50 bytes", Due.text(x, 0, text + "0"), 1);
        due("is", x.law(0, 0, 0, 0), 34);
        due("50 bytes, one lacks", Due.text(x, 0, text + "+"), fault(50));
        due("50 bytes, the last one is wrong", Due.text(x, 0, text + ")"), fault(49));
        due("50 bytes, the first one is wrong", Due.text(x, 0, ")" + text), fault(0));
        due("the one ahead stays", x.law(0, 0, 0, 0), 34);
        due("a fault is no error", x.told(1) + x.told(2) + x.told(3) + x.told(4) + x.told(5), 0);
        String wide = "1|".repeat(24) + "l";
        due("49 bytes of the lowest operator", Due.text(x, 1, wide), 1);
        due("is", x.law(1, 0, 0, 0), 1);
    }

    private static void tooEarly() {
        String[] texts = {"", "!", "(", "l+", "l<", "(l", "!(", "(1<2", "1&", "1|", "1*", "1/", "1%", "1-", "1=", "1>", "(!l"};
        UnderstudyHouse x = new UnderstudyHouse();
        for (String text : texts) {
            due("too early: " + text, Due.text(x, 0, text), fault(text.length()));
            due("the tape is empty", x.count(7), 0);
        }
    }

    private static void law(String text, int l, int due) {
        UnderstudyHouse x = new UnderstudyHouse();
        due("text " + text, Due.text(x, 0, text), 1);
        due("of " + l + " by " + text, x.law(0, l, 3, 7), due);
    }

    private static void orderOfOperators() {
        law("1|1&0", 0, 1);
        law("0&0|1", 0, 1);
        law("0&1<1", 0, 0);
        law("2=2&3=3", 0, 1);
        law("1<0|1", 0, 1);
        law("1<1+1", 0, 1);
        law("3-2>0", 0, 1);
        law("2+3*4", 0, 14);
        law("2*3+4", 0, 10);
        law("9-6/3", 0, 7);
        law("9-7%4", 0, 6);
        law("!0*5", 0, 5);
        law("!1+5", 0, 5);
        law("!(1-1)", 0, 1);
        law("9-3-2", 0, 4);
        law("7-2+1", 0, 6);
        law("8/4/2", 0, 1);
        law("8%5%2", 0, 1);
        law("6/3*2", 0, 4);
        law("7*3%4", 0, 1);
        law("8*(4-2)", 0, 16);
        law("l*100+m*10+k", 2, 237);
    }

    private static void wraps() {
        law("l+1<0", MAX, 1);
        law("l-1>0", MIN, 1);
        law("0-l=l", MIN, 1);
        law("l*2=0", MIN, 1);
        law("l*l=1", MAX, 1);
        law("(l+1)/(0-1)<0", MAX, 1);
        law("(l+1)%(0-1)=0", MAX, 1);
        law("l*9999*9999*9999>l", 1, 0);
        law("l*9999*9999*9999<0", 1, 1);
    }

    private static void quotients() {
        law("10+l/2", -7, 7);
        law("10+l%2", -7, 9);
        law("10+7/(0-2)", 0, 7);
        law("10+7%(0-2)", 0, 11);
        law("5+7/l", 0, 5);
        law("5+7%l", 0, 5);
        law("5+0/l", 0, 5);
        law("7/l", 7, 1);
        law("6/l", 7, 0);
        law("6%l", 7, 6);
        law("7%l", 7, 0);
        law("7/1", 0, 7);
    }

    private static void truths() {
        int[] values = {-1, 0, 1, 2, MIN, MAX};
        for (int l : values) {
            int is = l == 0 ? 0 : 1;
            law("!l", l, 1 - is);
            law("!!l", l, is);
            law("l&9", l, is);
            law("9&l", l, is);
            law("l&0", l, 0);
            law("0&l", l, 0);
            law("l|0", l, is);
            law("0|l", l, is);
            law("l|9", l, 1);
            law("9|l", l, 1);
            law("l<0", l, l < 0 ? 1 : 0);
            law("l>0", l, l > 0 ? 1 : 0);
            law("l=0", l, l == 0 ? 1 : 0);
            law("l<l", l, 0);
            law("l>l", l, 0);
            law("l=l", l, 1);
        }
        for (String zero : new String[] {"l|0", "l&9", "l<0", "l>0", "l=1", "!9", "l<l", "l>l"}) {
            law("5+(" + zero + ")", 0, 5);
            law("5-(" + zero + ")", 0, 5);
        }
        for (String one : new String[] {"l|9", "9&9", "l<2", "2>l", "l=0", "!l"}) {
            law("5+(" + one + ")", 0, 6);
            law("5-(" + one + ")", 0, 4);
        }
        law("l<m", MIN, 1);
        law("l>m", MAX, 1);
        law("m<l", MAX, 1);
        law("l<m", 2, 1);
        law("l<m", 3, 0);
        law("l>m", 3, 0);
        law("l>m", 4, 1);
    }

    private static void heldUses() {
        UnderstudyHouse x = new UnderstudyHouse();
        Due.text(x, 0, "l");
        Due.text(x, 1, "l");
        int[] values = {MIN, -1, 0, 1, 98, 99, 100, 998, 999, 1000, MAX};
        int[] claps = {0, 0, 0, 1, 98, 99, 100, 998, 999, 999, 999};
        int[] wages = {0, 0, 0, 1, 98, 99, 99, 99, 99, 99, 99};
        for (int i = 0; i < values.length; i++) {
            due("claps of " + values[i], x.law(0, values[i], 0, 0), claps[i]);
            due("wage of " + values[i], x.law(1, values[i], 0, 0), wages[i]);
        }
        Due.text(x, 0, "l+m+k");
        Due.text(x, 1, "l+p+n");
        due("names of any value", x.law(0, MAX, MIN, 8), 7);
        due("names of any value", x.law(1, MAX, MIN, 8), 7);
    }

    private static void withoutTexts() {
        UnderstudyHouse x = new UnderstudyHouse();
        int[][] claps = {
            {0, 0, 0}, {30, 2, 32}, {99, 6, 105}, {-1, 1, 0}, {-1, 0, 0}, {0, -1, 0}, {999, 0, 999}, {998, 1, 999},
            {999, 1, 999}, {MAX, 1, 0}, {MIN, -1, 999}, {MAX, 0, 999}, {MIN, 0, 0}
        };
        for (int[] row : claps) {
            due("claps of " + row[0] + " and " + row[1], x.law(0, row[0], 5, row[1]), row[2]);
        }
        int[][] wages = {
            {0, 1}, {9, 1}, {10, 2}, {19, 2}, {20, 3}, {99, 10}, {-1, 1}, {-9, 1}, {-10, 0}, {-20, 0}, {979, 98}, {980, 99},
            {989, 99}, {990, 99}, {MAX, 99}, {MIN, 0}
        };
        for (int[] row : wages) {
            due("wage of " + row[0], x.law(1, row[0], 5, 5), row[1]);
        }
    }

    // ---- 3: what would be

    private static void seasons() {
        due("nobody and nothing: 60", new UnderstudyHouse().season(), 60);
        due("nobody: 0", House.of(0).season(), 0);
        UnderstudyHouse x = House.of(20);
        House.players(x, 0, 0, 0, 0, 0, 0);
        due("each once", x.season(), 6);
        due("nights", x.nights(60), 6);
        due("none any more", x.season(), 0);
        UnderstudyHouse y = House.of(50);
        House.players(y, 0);
        due("without an end", y.season(), 60);
        due("nights of it", y.nights(60), 60);
        due("without an end, still", y.season(), 60);
        due("behind 60", y.then(60, 0, 2), 60 * 4 + 60 * 4);
        due("behind 59", y.then(59, 0, 2), 60 * 4 + 59 * 4);
        due("behind 0", y.then(0, 0, 2), 60 * 4);
        due("behind 1", y.then(1, 0, 2), 60 * 4 + 4);
    }

    /** Wages by the night's number tell that thought goes on behind night 9999. */
    private static void beyondTheLastNight() {
        UnderstudyHouse x = House.parts(House.old(9999), 50, 30);
        House.players(x, 0);
        Due.text(x, 1, "n-9990");
        due("no night", x.nights(60), 0);
        due("a season", x.season(), 60);
        due("behind 1", x.then(1, 0, 2), 9);
        due("behind 2", x.then(2, 0, 2), 9 + 10);
        due("behind 60", x.then(60, 0, 2), 60 * 9 + 59 * 60 / 2);
        due("learns", x.learns(0, 1), 1);
        Due.row(x, 0, 8, 9);
        due("fits", x.fits(0, -1), 1);
        x.tell(9);
        x.tell(19);
        x.tell(30);
        due("check", x.check(), 0);
        due("spare", x.spare(0), 0);
        due("only thought", x.count(2), 9999);
        due("castings", x.castings(), 1);
    }

    private static void ghostsBeyondTheLastNight() {
        UnderstudyHouse x = House.parts(House.old(9999), 60);
        x.player(0);
        Due.text(x, 1, "1");
        due("a season", x.season(), 60);
        due("night 9999 is odd", x.then(1, 0, 2), 1);
        due("night 10000 is even", x.then(2, 0, 2), 1);
        due("night 10001 is odd", x.then(3, 0, 2), 2);
        due("every other one", x.then(60, 0, 2), 30);
        x.change(0, 3, 1);
        due("blocked now", x.season(), 0);
        UnderstudyHouse y = House.parts(House.old(9998), 60);
        House.players(y, 0);
        due("empty at 9998, blocked at 9999", y.season(), 1);
    }

    /** Players who play nothing have purses, too, and no purse may be another one. */
    private static void pursesThatFit() {
        UnderstudyHouse x = House.of(50);
        House.players(x, 0, 0);
        x.nights(1);
        due("purses", x.ofPlayer(0, 3) * 100 + x.ofPlayer(1, 3), 400);
        int[][] rows = {{8, 0, 1}, {4, 4, 1}, {4, 0, 0}, {0, 4, 0}, {8, 4, 0}, {7, 0, 0}, {9, 0, 0}, {4, -4, 0}};
        for (int[] row : rows) {
            Due.row(x, 0, 16, row[0], row[1]);
            due("fits " + row[0] + " " + row[1], x.fits(0, -1), row[2]);
        }
    }

    /** With one more, who knows the last part, 1 learns less, so that nobody can play the first part again. */
    private static void spareNights() {
        UnderstudyHouse x = House.of(10, 0, 0);
        House.players(x, 7, 2);
        due("season", x.season(), 2);
        due("shorter", x.spare(4), -1);
        House.players(x, 4);
        due("season", x.season(), 1);
        UnderstudyHouse y = House.of(0);
        due("no longer by one who knows nothing", y.spare(0), 0);
        due("longer by one who knows it", y.spare(1), 1);
        UnderstudyHouse z = House.of(50);
        due("longer by a whole season", z.spare(0), 60);
        UnderstudyHouse none = new UnderstudyHouse();
        due("no parts", none.spare(0), 0);
        UnderstudyHouse own = House.of(60);
        own.player(0);
        due("one without his own is no ghost", own.spare(1), 0);
        own.change(0, 2, -1);
        due("season of a ghost of nobody", own.season(), 1);
        due("one without his own is no ghost", own.spare(1), 0);
        UnderstudyHouse five = House.of(20);
        House.players(five, 0, 0, 0, 0, 0);
        due("the sixth", five.spare(0), 1);
        UnderstudyHouse gala = House.of(0);
        gala.player(0);
        gala.gala(1);
        due("season of a gala", gala.season(), 1);
        due("a gala with one more, who knows nothing", gala.spare(0), 0);
        due("a gala with one more, who knows it", gala.spare(1), 1);
        due("gala still", gala.count(3), 1);
        UnderstudyHouse ill = House.of(50);
        House.players(ill, 0);
        ill.change(0, 3, 1);
        due("one more, who isn't ill", ill.spare(0), 60);
        UnderstudyHouse once = House.of(20);
        House.players(once, 0, 0);
        once.change(1, 3, 1);
        due("one more; who is ill still is", once.spare(0), 1);
    }

    /** z and what it gives, worked out with longs. */
    private static void draws() {
        int[] seeds = {0, 1, -1, MIN, MAX, 99, -1000000001};
        for (int seed : seeds) {
            for (int players = 1; players <= 6; players++) {
                UnderstudyHouse x = new UnderstudyHouse();
                for (int i = 0; i < players; i++) {
                    x.player(-1);
                }
                x.seed(seed);
                long z = (long) seed * 1103515245L + 12345L & 0xffffffffL;
                long given = z / 256;
                due("no parts", x.loose(1), 0);
                due("z behind " + seed, x.count(10), (int) z);
                due("ill of " + players + " by " + seed, x.count(6), 1L << given % players);
            }
        }
    }

    /** Draw behind draw, worked out with longs: who is drawn is ill, if he wasn't, whoever else is. */
    private static void manyDraws() {
        for (int players = 1; players <= 6; players++) {
            UnderstudyHouse x = new UnderstudyHouse();
            for (int i = 0; i < players; i++) {
                x.player(-1);
            }
            long z = 1;
            int ill = 0;
            for (int night = 1; night <= 40; night++) {
                z = z * 1103515245L + 12345L & 0xffffffffL;
                ill ^= 1 << z / 256 % players;
                x.loose(1);
                due("z at night " + night, x.count(10), (int) z);
                due("who of " + players + " is ill at night " + night, x.count(6), ill);
            }
            x.loose(40);
            for (int night = 41; night <= 80; night++) {
                z = z * 1103515245L + 12345L & 0xffffffffL;
                ill ^= 1 << z / 256 % players;
            }
            due("z behind 40 more", x.count(10), (int) z);
            due("who of " + players + " is ill behind 40 more", x.count(6), ill);
        }
    }

    private static void nightsByDraws() {
        UnderstudyHouse x = House.of(50);
        House.players(x, 0);
        due("ill, well, ill, well", x.loose(4), 8);
        due("is well", x.count(6), 0);
        due("nights, with a casting or not", x.count(2), 4);
        due("is ill", x.loose(1), 8);
        due("is ill", x.count(6), 1);
        due("played on two nights", x.ofPart(0, 3), 60);
        UnderstudyHouse y = House.of(30);
        due("no players: no draw", y.loose(3), 0);
        due("z", y.count(10), 1);
        due("nights", y.count(2), 3);
        UnderstudyHouse z = House.of(60);
        z.player(0);
        z.change(0, 3, 1);
        due("well at night 0, ill at night 1, well at 2, ill at 3", z.loose(4), 0);
        z.loose(1);
        due("ill at night 5", z.loose(1), 0);
        z.change(0, 3, 0);
        z.loose(1);
        due("well at night 7", z.loose(1), 4);
    }

    private static void voicesThatWrap() {
        UnderstudyHouse x = House.of(9, 9, 9, 9, 9);
        due("speaks", x.voice(4, 0, MAX), MIN + 3);
        due("speaks", x.voice(0, 0, MAX), MAX);
        due("enters", x.voice(4, 1, MAX), 6);
        due("enters", x.voice(0, 1, MIN), 0);
        due("falls", x.voice(4, 2, MIN), MAX - 8);
        due("tells", x.voice(4, 3, MIN), 8 ^ MAX - 8);
        x.become(0, 20);
        due("a SILENT speaks", x.voice(0, 0, MAX), MAX - 2);
        x.become(0, 30);
        due("a DEAD falls", x.voice(0, 2, MIN), MIN);
        x.become(0, 40);
        due("a SPLIT enters", x.voice(0, 1, MAX), -1);
        x.become(0, 10);
        due("a DOUBLED enters", x.voice(0, 1, MIN), -1);
        x.become(0, 50);
        due("a CAT tells", x.voice(0, 3, MIN), (0 ^ MIN) - 6);
        x.become(4, 60);
        due("a GHOST falls", x.voice(4, 2, MIN), MIN ^ 4);
    }

    private static void traces() {
        UnderstudyHouse x = House.of(0);
        due("no bodies at first", x.count(9), 0);
        due("none at first", x.trace(0), NONE);
        int[][][] due = {
            {{10}, {11, 10}, {12}, {13, 11, 10, 12}},
            {{10}, {20, 11, 10, 12}, {12}, {13, 20, 11, 10, 12, 12}},
            {{30, 10}, {11, 30, 10}, {12}, {13, 11, 30, 10, 12}},
            {{10}, {11, 10}, {40, 12}, {13, 11, 10, 40, 12}},
            {{10}, {50, 20, 11, 10, 12}, {12}, {13, 50, 20, 11, 10, 12, 12}},
            {{30, 10}, {11, 30, 10}, {12}, {60, 13, 11, 30, 10, 12, 30, 10}},
            {{10}, {11, 10}, {70, 40, 12}, {71, 11, 10, 13, 11, 10, 70, 40, 12}}
        };
        for (int kind = 0; kind < 7; kind++) {
            x.become(0, kind * 10);
            for (int act = 0; act < 4; act++) {
                String name = "kind " + kind + " act " + act;
                int[] bodies = due[kind][act];
                x.voice(0, act, 1);
                due(name + ": bodies", x.count(9), bodies.length);
                for (int i = 0; i < bodies.length; i++) {
                    due(name + ": trace " + i, x.trace(i), bodies[i]);
                }
                due(name + ": behind the last", x.trace(bodies.length), NONE);
            }
        }
    }

    // ---- 4: sheets

    private static void sheets() {
        UnderstudyHouse x = new UnderstudyHouse();
        for (int sheet = 0; sheet <= 3; sheet++) {
            due("missing at first: " + sheet, x.judge(sheet), NONE);
            due("sheet " + sheet, x.sheet(sheet, 8 << sheet % 3, 40), 1);
            due("its first", x.put(sheet, 0, 1), 1);
            due("its last", x.put(sheet, 39, 1), 1);
            due("behind its last", x.put(sheet, 40, 1), BEYOND);
            due("41", x.sheet(sheet, 8, 41), BEYOND);
            due("-1", x.sheet(sheet, 8, -1), STATE);
            due("it stays", x.put(sheet, 39, 1), 1);
        }
        due("sheet 4", x.sheet(4, 8, 1), BEYOND);
        due("sheet -1", x.sheet(-1, 8, 1), BEYOND);
    }
}
