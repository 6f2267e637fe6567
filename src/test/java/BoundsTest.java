/** Each promise at the ends of what it takes: the least, the most, nothing, everything (the refused: RefusedTest). */
public final class BoundsTest {
    private static final int BEYOND = Due.BEYOND;
    private static final int NONE = Due.NONE;
    private static final int STATE = Due.STATE;
    private static final int FULL = Due.FULL;
    private static final int KIND = Due.KIND;
    private static final int MIN = Integer.MIN_VALUE;
    private static final int MAX = Integer.MAX_VALUE;
    private static final Due DUE = new Due();

    private static void due(String call, long got, long want) {
        DUE.due(call, got, want);
    }

    public static void main(String[] args) {
        newObject();
        partEnds();
        ofPartEnds();
        linesEnds();
        becomeEnds();
        playerEnds();
        ofPlayerEnds();
        changeSets();
        changeOwnAndIll();
        galaEnds();
        feedEnds();
        textEnds();
        castEnds();
        castByWidths();
        nightsEnds();
        nightsTillTheLast();
        looseEnds();
        firstAndCastingsEnds();
        thenEnds();
        learnsEnds();
        blockedAndIdleEnds();
        changesEnds();
        tellsEnds();
        fitsEnds();
        spareEnds();
        seedEnds();
        voiceEnds();
        sheetEnds();
        putBits();
        moveEnds();
        moveWithinASheet();
        loadsEnds();
        judgeEnds();
        imageEnds();
        restoreEnds();
        tellEnds();
        checkEnds();
        countEnds();
        toldEnds();
        allCalls();
        DUE.end();
    }

    private static UnderstudyHouse full() {
        UnderstudyHouse x = House.of(50, 50, 50, 50, 50);
        House.players(x, 31, 31, 31, 31, 31, 31);
        return x;
    }

    private static void newObject() {
        UnderstudyHouse x = new UnderstudyHouse();
        int[] counts = {0, 0, 0, 0, 0, 0, 0, 0, 0, 0, 1};
        for (int what = 0; what <= 10; what++) {
            due("new: count " + what, x.count(what), counts[what]);
        }
        due("new: no part", x.ofPart(0, 0), BEYOND);
        due("new: no player", x.ofPlayer(0, 0), BEYOND);
        due("new: the casting of nobody", x.castings(), 1);
        due("new: blocked", x.blocked(), 0);
        due("new: idle", x.idle(), 0);
        due("new: nobody tells", x.tells(0), 0);
        due("new: check", x.check(), 0);
        due("new: no text", x.text(0), -10);
        due("new: claps without a text", x.law(0, 2, 3, 4), 6);
        due("new: wage without a text", x.law(1, 25, 3, 4), 3);
        for (int k = 2; k <= 5; k++) {
            due("new: told " + k, x.told(k), 0);
        }
        due("new: told by these calls", x.told(1), 2);
        due("new: gala is off", x.gala(0), 0);
        due("new: z", x.seed(1), 1);
        due("new: first image", x.image(), 1);
    }

    private static void partEnds() {
        for (int kind = 0; kind < 7; kind++) {
            UnderstudyHouse x = new UnderstudyHouse();
            due("kind " + kind + ", least", x.part(kind * 10, 0), 0);
            due("kind " + kind + ", most", x.part(kind * 10 + 9, 99), 1);
            for (int part = 0; part < 2; part++) {
                due("kind", x.ofPart(part, 0), kind);
                due("m", x.ofPart(part, 1), part * 9);
                due("lines", x.ofPart(part, 2), part * 99);
                due("applause", x.ofPart(part, 3), 0);
            }
        }
        UnderstudyHouse x = House.of(0, 0, 0, 0);
        due("the fifth", x.part(69, 99), 4);
        due("the sixth", x.part(0, 0), FULL);
        due("its kind", x.ofPart(4, 0), 6);
    }

    private static void ofPartEnds() {
        UnderstudyHouse x = full();
        due("may: all", x.ofPart(4, 5), 63);
        due("knows: all", x.ofPart(4, 6), 63);
        for (int player = 0; player < 6; player++) {
            x.change(player, 0, 0);
            x.change(player, 3, 1);
        }
        due("may: nobody", x.ofPart(4, 5), 0);
        due("knows: nobody", x.ofPart(4, 6), 0);
        x.change(5, 0, 16);
        due("knows: the last, who is ill", x.ofPart(4, 6), 32);
        due("knows: another part", x.ofPart(3, 6), 0);
        UnderstudyHouse y = House.of(0);
        due("no players may", y.ofPart(0, 5), 0);
        due("no players know", y.ofPart(0, 6), 0);
    }

    private static void linesEnds() {
        UnderstudyHouse x = House.of(0, 0, 0, 0, 40);
        House.players(x, 16);
        x.change(0, 1, 16);
        due("to the most", x.lines(4, 99), 30);
        due("a split one that he knows", x.ofPart(4, 5), 1);
        due("to the least", x.lines(4, 0), 99);
        due("a split one that he has played", x.ofPart(4, 5), 0);
        due("the same again", x.lines(4, 0), 0);
        due("the others stay", x.ofPart(3, 2), 30);
        due("the first", x.lines(0, 1), 30);
        due("is", x.ofPart(0, 2), 1);
    }

    private static void becomeEnds() {
        UnderstudyHouse x = House.of(0, 0, 0, 0, 7);
        House.players(x, 16);
        int was = 0;
        for (int kind = 0; kind < 7; kind++) {
            for (int m = 0; m <= 9; m += 9) {
                due("become " + kind + " with " + m, x.become(4, kind * 10 + m), was);
                due("kind", x.ofPart(4, 0), kind);
                due("m", x.ofPart(4, 1), m);
                was = kind;
            }
        }
        due("lines stay", x.ofPart(4, 2), 30);
        due("who knows it stays", x.ofPart(4, 6), 1);
        due("the others stay", x.ofPart(3, 0), 0);
        due("the first", x.become(0, 30), 0);
        due("is empty at once", x.ofPart(0, 4), 1);
        due("no more", x.become(0, 0), 3);
        due("is not empty at once", x.ofPart(0, 4), 0);
    }

    private static void playerEnds() {
        UnderstudyHouse x = new UnderstudyHouse();
        due("none without parts", x.player(-1), 0);
        due("the first of none", x.player(0), BEYOND);
        House.parts(x, 0, 0, 0, 0, 0);
        due("the first", x.player(0), 1);
        due("the last", x.player(4), 2);
        due("behind the last", x.player(5), BEYOND);
        int[][] due = {{0, -1}, {1, 0}, {16, 4}};
        for (int player = 0; player < 3; player++) {
            due("knows", x.ofPlayer(player, 0), due[player][0]);
            due("own", x.ofPlayer(player, 2), due[player][1]);
            due("played", x.ofPlayer(player, 1), 0);
            due("purse", x.ofPlayer(player, 3), 0);
            due("ill", x.ofPlayer(player, 4), 0);
        }
        due("two for one part", x.player(4), 3);
        due("both know it", x.ofPart(4, 6), 12);
        x.player(-1);
        due("the sixth", x.player(4), 5);
        due("the seventh", x.player(4), FULL);
    }

    private static void ofPlayerEnds() {
        UnderstudyHouse x = full();
        due("knows all", x.ofPlayer(5, 0), 31);
        due("may play all", x.ofPlayer(5, 5), 31);
        due("played none", x.ofPlayer(5, 1), 0);
        x.change(5, 1, 31);
        due("played all", x.ofPlayer(5, 1), 31);
        due("a cat may be played again", x.ofPlayer(5, 5), 31);
        x.change(5, 3, 1);
        due("is ill", x.ofPlayer(5, 4), 1);
        due("may play none", x.ofPlayer(5, 5), 0);
        UnderstudyHouse y = new UnderstudyHouse();
        y.player(-1);
        due("may play none of none", y.ofPlayer(0, 5), 0);
    }

    private static void changeSets() {
        for (int parts = 0; parts <= 5; parts++) {
            UnderstudyHouse x = House.of(new int[parts]);
            x.player(-1);
            int all = (1 << parts) - 1;
            for (int what = 0; what <= 1; what++) {
                String name = "change " + what + " of " + parts + " parts";
                due(name + ": all", x.change(0, what, all), 0);
                due(name + ": is all", x.ofPlayer(0, what), all);
                due(name + ": one too many", x.change(0, what, all + 1), BEYOND);
                due(name + ": below none", x.change(0, what, -1), BEYOND);
                due(name + ": none", x.change(0, what, 0), all);
                due(name + ": is none", x.ofPlayer(0, what), 0);
            }
        }
    }

    private static void changeOwnAndIll() {
        UnderstudyHouse x = House.of(0, 0, 0, 0, 0);
        x.player(2);
        due("own: the last", x.change(0, 2, 4), 2);
        due("he doesn't know it by that", x.ofPlayer(0, 0), 4);
        due("own: none", x.change(0, 2, -1), 4);
        due("own: none again", x.change(0, 2, -1), -1);
        due("own: the first", x.change(0, 2, 0), -1);
        due("is the first", x.ofPlayer(0, 2), 0);
        due("own: behind the last", x.change(0, 2, 5), BEYOND);
        due("well: well", x.change(0, 3, 0), 0);
        due("well: ill", x.change(0, 3, 1), 0);
        due("ill: ill", x.change(0, 3, 1), 1);
        due("is ill", x.count(6), 1);
        due("ill: well", x.change(0, 3, 0), 1);
        due("is well", x.count(6), 0);
        UnderstudyHouse none = new UnderstudyHouse();
        none.player(-1);
        due("no parts: own none", none.change(0, 2, -1), -1);
        due("no parts: own the first", none.change(0, 2, 0), BEYOND);
        UnderstudyHouse six = full();
        due("the last is ill", six.change(5, 3, 1), 0);
        due("he alone", six.count(6), 32);
        due("the first is ill", six.change(0, 3, 1), 0);
        due("both", six.count(6), 33);
        due("the last is well", six.change(5, 3, 0), 1);
        due("the first still", six.count(6), 1);
    }

    private static void galaEnds() {
        UnderstudyHouse x = new UnderstudyHouse();
        int[][] rows = {{0, 0}, {1, 0}, {1, 1}, {0, 1}, {0, 0}};
        for (int[] row : rows) {
            due("gala " + row[0], x.gala(row[0]), row[1]);
            due("is", x.count(3), row[0]);
        }
    }

    private static UnderstudyHouse fed(int bytes) {
        UnderstudyHouse x = new UnderstudyHouse();
        Due.feed(x, "l".repeat(bytes));
        return x;
    }

    private static void feedEnds() {
        for (int n = 1; n <= 8; n++) {
            due(n + " bytes to none", fed(0).feed(0, n), n);
            due(n + " bytes to 50", fed(50 - n).feed(0, n), 50);
            due(n + " bytes to 51", fed(51 - n).feed(0, n), FULL);
        }
        UnderstudyHouse x = new UnderstudyHouse();
        long word = 0;
        String text = "l+1234*m";
        for (int i = 7; i >= 0; i--) {
            word = word << 8 | text.charAt(i);
        }
        due("all eight bytes", x.feed(word, 8), 8);
        due("as a text", x.text(0), 1);
        due("is", x.law(0, 9, 0, 0), 9);
        due("is", x.law(0, -1233, 1, 0), 1);
        due("the lowest of eight", x.feed(word, 1), 1);
        due("as a text", x.text(0), 1);
        due("is", x.law(0, 9, 8, 0), 9);
        due("none above the three lowest", x.feed(word | 0xff00000000000000L, 3), 3);
        due("as a text", x.text(0), 1);
        due("is", x.law(0, 9, 8, 0), 10);
        due("a byte that is 255, the highest", x.feed(MIN * 4294967296L | 'l', 8), 8);
        due("bytes of 0 are no text", x.text(0), -11);
        due("a word of all bits", x.feed(-1L, 8), 8);
        due("is no text", x.text(0), -10);
        UnderstudyHouse y = fed(50);
        due("a full tape is emptied", y.text(0), -11);
        due("and takes again", y.feed('7', 1), 1);
        due("as a text", y.text(1), 1);
    }

    private static void textEnds() {
        UnderstudyHouse x = new UnderstudyHouse();
        due("use 0", Due.text(x, 0, "5"), 1);
        due("use 1", Due.text(x, 1, "6"), 1);
        due("claps", x.law(0, 1, 1, 1), 5);
        due("wage", x.law(1, 1, 1, 1), 6);
        due("in place of the one ahead", Due.text(x, 0, "7"), 1);
        due("claps", x.law(0, 1, 1, 1), 7);
        due("the wage stays", x.law(1, 1, 1, 1), 6);
        due("an empty tape", x.text(0), -10);
        due("the claps stay", x.law(0, 1, 1, 1), 7);
        due("a fault", Due.text(x, 1, "l+p+k"), -14);
        due("the wage stays", x.law(1, 1, 1, 1), 6);
        due("the tape is empty", x.count(7), 0);
        due("a text of three parts", x.feed('1', 1) + x.feed('+', 1) + x.feed('l', 1), 6);
        due("a use that isn't", x.text(2), BEYOND);
        due("the tape stays", x.count(7), 3);
        due("a use that is", x.text(1), 1);
        due("wage", x.law(1, 8, 1, 1), 9);
    }

    private static void castEnds() {
        UnderstudyHouse x = House.old(9998);
        House.parts(x, 50);
        House.players(x, 0, 0);
        Due.row(x, 3, 8, 1);
        due("to the last night", x.cast(3), 9999);
        due("played", x.ofPlayer(1, 1), 1);
        due("not by the first", x.ofPlayer(0, 1), 0);
        due("no more", x.cast(3), STATE);
        due("night stays", x.count(2), 9999);
        due("applause stays", x.ofPart(0, 3), 30);
        UnderstudyHouse none = new UnderstudyHouse();
        none.sheet(0, 8, 0);
        due("a row of none for no parts", none.cast(0), 1);
        none.sheet(0, 8, 1);
        due("a row of one for no parts", none.cast(0), STATE);
        UnderstudyHouse all = full();
        Due.row(all, 0, 8, 5, 4, 3, 2, 1);
        due("the last players", all.cast(0), 1);
        for (int player = 0; player < 6; player++) {
            due("played by " + player, all.ofPlayer(player, 1), player == 0 ? 0 : 1 << 5 - player);
        }
        due("a cat again", all.cast(0), 2);
    }

    private static void castByWidths() {
        for (int bits = 8; bits <= 32; bits *= 2) {
            UnderstudyHouse x = House.of(30, 50, 60);
            House.players(x, 0, 0);
            Due.row(x, 0, bits, -1, 1, -1);
            due("by " + bits + " bits", x.cast(0), 1);
            due("applause of the empty", x.ofPart(0, 3) + x.ofPart(2, 3), 0);
            due("applause of the cat", x.ofPart(1, 3), 30);
            due("knows what is beside", x.ofPlayer(1, 0), 5);
            due("a ghost at night 1", x.cast(0), STATE);
        }
    }

    private static void nightsEnds() {
        UnderstudyHouse x = House.of(50);
        House.players(x, 0);
        due("1", x.nights(1), 1);
        due("60", x.nights(60), 60);
        due("night", x.count(2), 61);
        due("59", x.nights(59), 59);
        due("night", x.count(2), 120);
        UnderstudyHouse y = House.of(20);
        House.players(y, 0, 0, 0);
        y.gala(1);
        due("till there is none", y.nights(60), 3);
        due("gala is over", y.gala(1), 0);
        due("none", y.nights(1), 0);
        due("gala stays", y.count(3), 1);
        due("night stays", y.count(2), 3);
        due("z stays", y.count(10), 1);
    }

    private static void nightsTillTheLast() {
        int[][] rows = {{9938, 60, 60}, {9939, 60, 60}, {9940, 60, 59}, {9998, 60, 1}, {9998, 1, 1}, {9999, 1, 0}, {9999, 60, 0}};
        for (int[] row : rows) {
            UnderstudyHouse x = House.old(row[0]);
            due("night", x.count(2), row[0]);
            due(row[1] + " from " + row[0], x.nights(row[1]), row[2]);
            due("night then", x.count(2), row[0] + row[2]);
        }
        UnderstudyHouse x = House.parts(House.old(9999), 50);
        House.players(x, 0);
        x.gala(1);
        due("no night", x.nights(60), 0);
        due("no applause", x.count(4) + x.count(5), 0);
        due("gala stays", x.count(3), 1);
    }

    private static void looseEnds() {
        int[][] rows = {{9998, 1}, {9959, 40}, {9958, 40}, {9960, 39}, {9997, 2}};
        for (int[] row : rows) {
            UnderstudyHouse x = House.old(row[0]);
            due(row[1] + " from " + row[0], x.loose(row[1]), 0);
            due("night then", x.count(2), row[0] + row[1]);
        }
        UnderstudyHouse x = House.parts(House.old(9998), 0);
        x.gala(1);
        due("without a casting to the last night", x.loose(1), 0);
        due("night", x.count(2), 9999);
        due("gala stays", x.count(3), 1);
        due("no more", x.loose(1), STATE);
        UnderstudyHouse y = full();
        y.loose(40);
        due("40 nights", y.count(2), 40);
        due("purses of all", y.loose(1), y.count(5));
        UnderstudyHouse z = House.of(50);
        House.players(z, 0, 0);
        z.change(0, 3, 1);
        z.seed(0);
        due("12345 >>> 8 is 48: he isn't ill any more", z.loose(1), 4);
        due("nobody is ill", z.count(6), 0);
        due("z", z.count(10), 12345);
    }

    private static void firstAndCastingsEnds() {
        UnderstudyHouse x = full();
        due("first of the first", x.first(0), 0);
        due("first of the last", x.first(4), 4);
        due("castings of cats", x.castings(), 720);
        UnderstudyHouse y = House.of(30, 30, 30, 30, 30);
        due("first of an empty one", y.first(4), -1);
        due("castings of the dead", y.castings(), 1);
        House.players(y, 0, 0, 0, 0, 0, 0);
        due("castings of the dead, with players", y.castings(), 1);
        UnderstudyHouse z = new UnderstudyHouse();
        for (int i = 0; i < 5; i++) {
            z.part(40, 99);
        }
        House.players(z, 31, 31, 31, 31, 31, 31);
        due("as many as there can be", z.castings(), 7776);
        due("first of the last", z.first(4), 0);
        UnderstudyHouse six = House.of(50);
        House.players(six, 0, 0, 0, 0, 0, 0);
        for (int player = 0; player < 5; player++) {
            six.change(player, 3, 1);
        }
        due("the last one alone", six.first(0), 5);
        six.change(5, 3, 1);
        due("nobody", six.first(0), NONE);
        due("no castings", six.castings(), 0);
    }

    private static void thenEnds() {
        UnderstudyHouse x = full();
        for (int player = 0; player < 6; player++) {
            due("behind 0 knows " + player, x.then(0, player, 0), 31);
            due("behind 0 played " + player, x.then(0, player, 1), 0);
            due("behind 0 purse " + player, x.then(0, player, 2), 0);
            due("behind 60 played " + player, x.then(60, player, 1), player == 5 ? 0 : 1 << player);
            due("behind 60 purse " + player, x.then(60, player, 2), player == 5 ? 0 : 240);
        }
        UnderstudyHouse y = House.of(20);
        House.players(y, 0, 0);
        int[] purses = {0, 4, 4, 4};
        for (int n = 0; n < purses.length; n++) {
            due("the first, behind " + n, y.then(n, 0, 2), purses[n]);
            due("the second, behind " + n, y.then(n, 1, 2), n < 2 ? 0 : 4);
        }
        due("fewer, if there is none any more", y.then(60, 1, 1), 1);
        due("none, if there is none", House.after(House.of(0), z -> z.player(0)).then(60, 0, 1), 0);
    }

    private static void learnsEnds() {
        UnderstudyHouse x = House.of(50, 30, 30, 30, 50);
        House.players(x, 0, 0, 24);
        due("known at once", x.learns(2, 3), 0);
        due("known at once", x.learns(2, 4), 0);
        due("beside the first", x.learns(0, 1), 1);
        due("beside the last", x.learns(1, 3), 1);
        due("not the next but one", x.learns(0, 2), NONE);
        due("not what he plays", x.learns(0, 0), NONE);
        due("not across the end", x.learns(1, 0), NONE);
        due("who never plays", x.learns(2, 0), NONE);
        UnderstudyHouse y = House.of(20, 30);
        House.players(y, 0, 0, 0, 0, 0, 0);
        for (int player = 0; player < 6; player++) {
            due("learns in his turn: " + player, y.learns(player, 1), player + 1);
        }
        UnderstudyHouse z = House.of(0, 0);
        House.players(z, 0);
        due("without any night", z.learns(0, 0), NONE);
        z.change(0, 0, 1);
        due("without any night, known at once", z.learns(0, 0), 0);
    }

    private static void blockedAndIdleEnds() {
        UnderstudyHouse x = House.of(0, 0, 0, 0, 0);
        due("all are blocked", x.blocked(), 31);
        House.players(x, 31, 0, 0, 0, 0, 0);
        due("none is, though there is no casting", x.blocked(), 0);
        due("no casting", x.castings(), 0);
        due("all are idle", x.idle(), 63);
        x.change(0, 0, 15);
        due("the last is blocked", x.blocked(), 16);
        UnderstudyHouse y = full();
        due("none is idle", y.idle(), 0);
        y.change(5, 3, 1);
        due("the last is idle", y.idle(), 32);
        y.change(0, 3, 1);
        due("no casting of four for five", y.idle(), 63);
        due("no part is blocked", y.blocked(), 0);
        UnderstudyHouse z = House.of(30, 60, 0);
        due("the empty aren't blocked", z.blocked(), 4);
        UnderstudyHouse late = House.of(0);
        House.players(late, 0, 0, 0, 0, 0, 1);
        due("all but the last", late.idle(), 31);
    }

    private static void changesEnds() {
        UnderstudyHouse x = full();
        Due.row(x, 0, 8, 0, 1, 2, 3, 4);
        due("none without the last", x.changes(0, 5), 0);
        due("one without the first", x.changes(0, 0), 1);
        due("one without the fifth", x.changes(0, 4), 1);
        Due.row(x, 1, 16, -1, -1, -1, -1, -1);
        due("all five", x.changes(1, 5), 5);
        Due.row(x, 2, 32, 0, 0, 0, 0, MAX);
        due("four of five", x.changes(2, 5), 4);
        due("all five without him", x.changes(2, 0), 5);
        x.change(5, 3, 1);
        due("no such casting", x.changes(0, 0), NONE);
        UnderstudyHouse later = House.of(50, 50, 50, 50);
        House.players(later, 0, 0, 0, 0, 0, 0);
        Due.row(later, 0, 8, 0, 1, 2, 5);
        due("none by a casting behind one with one change", later.changes(0, 4), 0);
        Due.row(later, 0, 8, 5, 3, 2, 1);
        due("none by a casting behind many", later.changes(0, 0), 0);
        due("one by a casting behind many", later.changes(0, 5), 1);
        UnderstudyHouse y = House.of(30, 60);
        House.players(y, 0);
        Due.row(y, 0, 8, -1, -1);
        due("the empty ones are nobody", y.changes(0, 0), 0);
        Due.row(y, 0, 8, 0, 0);
        due("the empty ones told as somebody", y.changes(0, 0), 2);
        UnderstudyHouse none = new UnderstudyHouse();
        none.player(-1);
        none.sheet(0, 8, 0);
        due("a row of none", none.changes(0, 0), 0);
        none.sheet(0, 8, 1);
        due("a row of one for no parts", none.changes(0, 0), NONE);
    }

    private static void tellsEnds() {
        UnderstudyHouse x = full();
        due("nobody", x.tells(0), 0);
        due("all", x.tells(63), 31);
        for (int player = 0; player < 6; player++) {
            x.change(player, 0, player < 5 ? 1 << player : 0);
        }
        due("all, each of one part", x.tells(63), 31);
        due("the last alone", x.tells(32), 0);
        due("the fifth alone", x.tells(16), 16);
        due("the first alone", x.tells(1), 1);
        due("one too many", x.tells(64), BEYOND);
        x.change(0, 3, 1);
        due("one who is ill, too", x.tells(1), 1);
        UnderstudyHouse none = new UnderstudyHouse();
        due("nobody of none", none.tells(0), 0);
        due("one of none", none.tells(1), BEYOND);
    }

    private static void fitsEnds() {
        UnderstudyHouse x = new UnderstudyHouse();
        for (int i = 0; i < 5; i++) {
            x.part(40, 99);
        }
        House.players(x, 31, 31, 31, 31, 31, 31);
        Due.text(x, 1, "0");
        x.sheet(0, 8, 6);
        due("all of them", x.fits(0, -1), 7776);
        due("the first of the least", x.fits(0, 0), 0);
        due("the last of the least", x.fits(0, 4), 0);
        due("behind the last", x.fits(0, 5), BEYOND);
        due("below -1", x.fits(0, -2), BEYOND);
        Due.text(x, 1, "1");
        Due.row(x, 0, 8, 0, 0, 0, 0, 0, 5);
        due("the last one for all", x.fits(0, -1), 1);
        due("he for the last", x.fits(0, 4), 5);
        Due.row(x, 0, 8, 0, 0, 0, 0, 1, 4);
        due("one for one of them", x.fits(0, -1), 5);
        due("the least has him first", x.fits(0, 0), 4);
        due("the least", x.fits(0, 1), 5);
        Due.row(x, 0, 8, 0, 0, 0, 0, 0, 6);
        due("none", x.fits(0, -1), 0);
        due("none, of the first", x.fits(0, 0), NONE);
        Due.row(x, 0, 8, 0, 0, 0, 0, 0, 5, 0);
        due("a number too many", x.fits(0, -1), NONE);
        Due.row(x, 0, 8, 0, 0, 0, 0, 5);
        due("a number lacks", x.fits(0, -1), NONE);
        UnderstudyHouse none = new UnderstudyHouse();
        none.sheet(0, 8, 0);
        due("nobody and nothing", none.fits(0, -1), 1);
        due("no part of none", none.fits(0, 0), BEYOND);
        none.part(0, 0);
        due("nobody for a part", none.fits(0, -1), 0);
        due("nobody for a part", none.fits(0, 0), NONE);
        none.become(0, 30);
        due("an empty one", none.fits(0, 0), -1);
    }

    private static void spareEnds() {
        UnderstudyHouse x = House.of(0, 0, 0, 0, 0);
        due("one who knows all is not enough", x.spare(31), 0);
        due("one who knows none", x.spare(0), 0);
        due("one too many", x.spare(32), BEYOND);
        House.players(x, 31, 31, 31, 31);
        due("no season of four for five", x.season(), 0);
        int longer = x.spare(31);
        House.players(x, 31);
        due("as long as with one who came", x.season(), longer);
        due("five nights", longer, 5);
        House.players(x, 31);
        due("six players", x.spare(31), FULL);
        UnderstudyHouse y = House.of(0);
        House.players(y, 1);
        y.change(0, 1, 1);
        due("a new one has played none", y.spare(1), 1);
        due("of a season of none", y.season(), 0);
        y.change(0, 1, 0);
        due("a season of one", y.season(), 1);
        due("one more", y.spare(1), 1);
        UnderstudyHouse none = new UnderstudyHouse();
        due("no parts: 60 less 60", none.spare(0), 0);
        due("no parts: one too many", none.spare(1), BEYOND);
        due("no player came", none.count(1), 0);
    }

    private static void seedEnds() {
        UnderstudyHouse x = new UnderstudyHouse();
        int was = 1;
        for (int v : new int[] {0, -1, MIN, MAX, BEYOND, NONE, STATE, FULL, KIND, 1}) {
            due("seed " + v, x.seed(v), was);
            due("z", x.count(10), v);
            was = v;
        }
        for (int k = 1; k <= 5; k++) {
            due("no error by it: " + k, x.told(k), 0);
        }
    }

    private static void voiceEnds() {
        UnderstudyHouse x = House.of(9, 9, 9, 9, 9);
        for (int k = 1; k <= 5; k++) {
            int v = -1000000000 - k;
            due("an answer like an error", x.voice(0, 0, v), v);
            due("is none", x.told(k), 0);
            due("is in the trace", x.trace(0), 10);
        }
        for (int part = 0; part < 5; part++) {
            due("number " + part + " speaks", x.voice(part, 0, 0), part);
            due("number " + part + " enters", x.voice(part, 1, 0), part * 2);
            due("number " + part + " falls", x.voice(part, 2, 0), -9);
            due("number " + part + " tells", x.voice(part, 3, 0), part * 2 ^ -9);
        }
        x.become(4, 0);
        due("m 0 falls", x.voice(4, 2, 0), 0);
        due("the trace's first", x.trace(0), 12);
        due("the trace's only one", x.trace(1), NONE);
        due("below the first", x.trace(-1), NONE);
    }

    private static void sheetEnds() {
        UnderstudyHouse x = House.of(0);
        for (int sheet = 0; sheet <= 3; sheet++) {
            for (int bits = 8; bits <= 32; bits *= 2) {
                String name = "sheet " + sheet + " of " + bits;
                due(name + ", none", x.sheet(sheet, bits, 0), 1);
                due(name + ", no first", x.put(sheet, 0, 1), BEYOND);
                due(name + ", one", x.sheet(sheet, bits, 1), 1);
                due(name + ", the first", x.put(sheet, 0, 1), 1);
                due(name + ", no second", x.put(sheet, 1, 1), BEYOND);
                due(name + ", 40", x.sheet(sheet, bits, 40), 1);
                due(name + ", the last", x.put(sheet, 39, 1), 1);
                due(name + ", the first is 0 again", x.loads(sheet) * 100 + x.ofPart(0, 2), 100);
                due(name + ", 41", x.sheet(sheet, bits, 41), BEYOND);
                due(name + ", -1", x.sheet(sheet, bits, -1), STATE);
                due(name + ", still 40", x.move(sheet, 0, sheet, 0, 40), 40);
            }
            for (int n : new int[] {0, 1, 40, 41, -1, MIN, MAX}) {
                due("missing of " + n, x.sheet(sheet, 0, n), 1);
                due("is missing", x.judge(sheet), NONE);
            }
        }
        due("once more", x.sheet(0, 8, 2), 1);
        due("all are 0", x.loads(0) * 100 + x.ofPart(0, 2), 100);
    }

    /** A number of a sheet is looked at as lines, or as nobody for one of the dead. */
    private static void putBits() {
        int[][] rows = {
            // bits, what is put, the lines that it is (-1: nobody; -2: neither)
            {8, 0, 0}, {8, 99, 99}, {8, 127, -2}, {8, 128, -2}, {8, 255, -1}, {8, 256, 0}, {8, 257, 1}, {8, -1, -1},
            {8, -256, 0}, {8, -255, 1}, {8, MIN, 0}, {8, MAX, -1}, {8, -257, -1},
            {16, 99, 99}, {16, 256, -2}, {16, 32767, -2}, {16, 65535, -1}, {16, 65536, 0}, {16, 65537, 1}, {16, -1, -1},
            {16, -65536, 0}, {16, -65535, 1}, {16, MIN, 0}, {16, MAX, -1}, {16, 255, -2},
            {32, 99, 99}, {32, 255, -2}, {32, 65535, -2}, {32, 65536, -2}, {32, -1, -1}, {32, MIN, -2}, {32, MAX, -2}
        };
        for (int[] row : rows) {
            UnderstudyHouse x = House.of(30);
            String name = row[1] + " in " + row[0] + " bits";
            x.sheet(0, row[0], 1);
            due("put " + name, x.put(0, 0, row[1]), 1);
            due("loads " + name, x.loads(0), row[2] >= 0 ? 1 : 0);
            due("lines of " + name, x.ofPart(0, 2), row[2] >= 0 ? row[2] : 30);
            due("nobody by " + name, x.judge(0), row[2] == -1 ? -1 : 0);
        }
    }

    private static void moveEnds() {
        UnderstudyHouse x = House.of(0, 0, 0, 0, 0);
        x.sheet(0, 8, 40);
        x.sheet(1, 8, 40);
        for (int i = 0; i < 40; i++) {
            x.put(0, i, i + 1);
        }
        due("all 40", x.move(0, 0, 1, 0, 40), 40);
        due("the last to the first", x.move(1, 39, 1, 0, 1), 1);
        due("the second to the last", x.move(1, 1, 1, 39, 1), 1);
        due("the last to the third", x.move(1, 39, 1, 2, 1), 1);
        lines(x, 1, 40, 2, 2, 4, 5);
        lines(x, 0, 1, 2, 3, 4, 5);
        due("none behind the last", x.move(0, 40, 1, 40, 0), 0);
        due("none in front", x.move(0, 0, 1, 0, 0), 0);
        due("one behind the last", x.move(0, 40, 1, 0, 1), BEYOND);
        due("one to behind the last", x.move(0, 0, 1, 40, 1), BEYOND);
        due("none behind the one behind the last", x.move(0, 41, 1, 0, 0), BEYOND);
        due("41", x.move(0, 0, 1, 0, 41), BEYOND);
        x.sheet(2, 8, 0);
        due("none of none", x.move(2, 0, 2, 0, 0), 0);
        due("one of none", x.move(2, 0, 1, 0, 1), BEYOND);
        due("one to none", x.move(1, 0, 2, 0, 1), BEYOND);
        Due.row(x, 3, 32, MAX, MIN, -1, 5, 65536);
        Due.row(x, 2, 32, 0, 0, 0, 0, 0);
        due("whole numbers", x.move(3, 3, 2, 0, 2), 2);
        due("the first came", x.loads(2), 1);
        due("is", x.ofPart(0, 2), 5);
        lines(x, 1, 40, 2, 2, 4, 5);
    }

    /** As they all were: also where the places overlap, both ways, by each distance. */
    private static void moveWithinASheet() {
        for (int i = 0; i <= 5; i++) {
            for (int j = 0; j <= 5; j++) {
                for (int n = 0; n <= 5; n++) {
                    UnderstudyHouse x = House.of(0, 0, 0, 0, 0);
                    Due.row(x, 0, 16, 1, 2, 3, 4, 5);
                    int[] due = {1, 2, 3, 4, 5};
                    boolean there = i + n <= 5 && j + n <= 5;
                    for (int k = 0; there && k < n; k++) {
                        due[j + k] = i + k + 1;
                    }
                    due("move " + n + " from " + i + " to " + j, x.move(0, i, 0, j, n), there ? n : BEYOND);
                    lines(x, 0, due);
                }
            }
        }
    }

    private static void lines(UnderstudyHouse x, int sheet, int... due) {
        due("loads", x.loads(sheet), due.length);
        for (int part = 0; part < due.length; part++) {
            due("lines " + part, x.ofPart(part, 2), due[part]);
        }
    }

    private static void loadsEnds() {
        int[][][] rows = {
            {{0, 99, 0, 99, 0}, {5}, {0, 99, 0, 99, 0}},
            {{0, 99, 100, 1, 1}, {2}, {0, 99, 30, 30, 30}},
            {{-1, 1, 1, 1, 1}, {0}, {30, 30, 30, 30, 30}},
            {{1, 2, 3, 4, 100}, {4}, {1, 2, 3, 4, 30}},
            {{1, 2, 3, 4, 5, 6}, {5}, {1, 2, 3, 4, 5}},
            {{1, 2, 3, 4}, {4}, {1, 2, 3, 4, 30}},
            {{7}, {1}, {7, 30, 30, 30, 30}},
            {{}, {0}, {30, 30, 30, 30, 30}}
        };
        for (int[][] row : rows) {
            UnderstudyHouse x = House.of(0, 0, 0, 0, 0);
            Due.row(x, 0, 8, row[0]);
            due("loads", x.loads(0), row[1][0]);
            for (int part = 0; part < 5; part++) {
                due("lines " + part, x.ofPart(part, 2), row[2][part]);
            }
            due("no error", x.told(1) + x.told(2) + x.told(3), 0);
        }
        UnderstudyHouse none = new UnderstudyHouse();
        none.sheet(3, 32, 40);
        due("for no parts", none.loads(3), 0);
        UnderstudyHouse x = House.of(0);
        for (int v : new int[] {MIN, MAX, 100, -1}) {
            Due.row(x, 0, 32, v);
            due("no lines by " + v, x.loads(0), 0);
        }
        due("lines", x.ofPart(0, 2), 30);
    }

    private static void judgeEnds() {
        int[][][] rows = {
            {{0, 1, 2, 3, 4}, {-1}}, {{5, 4, 3, 2, 1}, {-1}}, {{0, 1, 2, 3, 5}, {-1}}, {{0, 1, 2, 3, 6}, {4}},
            {{0, 1, 2, 3, -1}, {4}}, {{6, 1, 2, 3, 4}, {0}}, {{-1, 1, 2, 3, 4}, {0}}, {{0, 0, 2, 3, 4}, {1}},
            {{0, 1, 2, 3, 0}, {4}}, {{0, 1, 2, 3}, {4}}, {{0, 1, 2, 3, 4, 5}, {5}}, {{0, 1, 2, 3, 3, 5}, {4}}, {{}, {0}},
            {{0, 1, 2, 3, 32}, {4}}, {{0, 1, 2, 3, 36}, {4}}, {{31, 1, 2, 3, 4}, {0}}, {{MIN, 1, 2, 3, 4}, {0}},
            {{MAX, 1, 2, 3, 4}, {0}}, {{0, 1, 1, 9, 9}, {2}}, {{0, 1}, {2}}, {{0, 0}, {1}}
        };
        UnderstudyHouse x = full();
        for (int[][] row : rows) {
            Due.row(x, 0, 32, row[0]);
            due("judge " + java.util.Arrays.toString(row[0]), x.judge(0), row[1][0]);
        }
        UnderstudyHouse y = House.of(30, 50, 10, 50);
        House.players(y, 4, 4);
        int[][][] others = {
            {{-1, 0, 0, 1}, {-1}}, {{-1, 0, 1, 1}, {-1}}, {{-1, 0, 0, 0}, {3}}, {{0, 0, 0, 1}, {0}}, {{-1, -1, 0, 1}, {1}},
            {{-1, 0, -1, 1}, {2}}, {{-2, 0, 0, 1}, {0}}, {{1, 0, 0, 1}, {0}}
        };
        for (int[][] row : others) {
            Due.row(y, 0, 32, row[0]);
            due("with an empty and a doubled one, judge " + java.util.Arrays.toString(row[0]), y.judge(0), row[1][0]);
        }
        UnderstudyHouse late = House.parts(House.old(9999), 50);
        House.players(late, 0);
        Due.row(late, 0, 8, 0);
        due("a casting at the last night, too", late.judge(0), -1);
        UnderstudyHouse none = new UnderstudyHouse();
        none.sheet(0, 8, 40);
        due("40 too many", none.judge(0), 0);
        none.sheet(0, 8, 0);
        due("none for none", none.judge(0), -1);
    }

    private static void imageEnds() {
        UnderstudyHouse x = new UnderstudyHouse();
        due("an image of nothing", x.image(), 1);
        x.part(0, 0);
        due("back to nothing", x.restore(), 0);
        due("no parts", x.count(0), 0);
        due("an image of nothing again", x.image(), 2);
        House.parts(x, 50, 50, 50, 50, 50);
        House.players(x, 1, 2, 4, 8, 16, 31);
        due("an image of all in place of it", x.image(), 3);
        x.nights(60);
        x.change(5, 0, 0);
        x.become(4, 31);
        due("back to all", x.restore(), 0);
        due("five parts", x.count(0), 5);
        due("six players", x.count(1), 6);
        due("the last part", x.ofPart(4, 0) * 10 + x.ofPart(4, 1), 50);
        due("its applause", x.ofPart(4, 3), 0);
        due("the last player knows", x.ofPlayer(5, 0), 31);
        due("the first has no purse", x.ofPlayer(0, 3), 0);
        due("the first has played none", x.ofPlayer(0, 1), 0);
    }

    private static void restoreEnds() {
        UnderstudyHouse x = House.old(9999);
        x.image();
        due("night 9999", x.restore(), 9999);
        UnderstudyHouse y = House.rich();
        y.image();
        for (int sheet = 0; sheet < 4; sheet++) {
            y.sheet(sheet, 8, 4);
            y.put(sheet, 1, 1);
        }
        y.voice(0, 0, 0);
        int[] told = State.told(y);
        y.restore();
        due("sheets stay as they are", y.move(0, 1, 2, 0, 1), 1);
        due("the trace stays as it is", y.count(9) * 100 + y.trace(0), 110);
        for (int k = 1; k <= 5; k++) {
            due("told stays as it is: " + k, y.told(k), told[k]);
        }
        due("again", y.restore(), 1);
        due("how often an image was kept", y.image(), 3);
        UnderstudyHouse z = House.rich();
        due("the night of the image", z.restore(), 0);
        due("its tape", z.count(7), 1);
        due("its numbers that wait", z.count(8), 1);
        due("its z", z.count(10), 1);
        due("its gala", z.count(3), 0);
        due("its claps", z.law(0, 5, 6, 7), 11);
        due("its wage", z.law(1, 5, 6, 7), 7);
        due("who is ill in it", z.count(6), 8);
    }

    private static void tellEnds() {
        UnderstudyHouse x = new UnderstudyHouse();
        for (int i = 1; i <= 20; i++) {
            due("tell " + i, x.tell(i == 1 ? MIN : i == 2 ? MAX : 0), i);
        }
        due("the 21st", x.tell(0), FULL);
        due("the first isn't so", x.check(), 1);
        due("again the first", x.tell(0), 1);
        due("all are so", x.check(), 0);
    }

    private static void checkEnds() {
        UnderstudyHouse x = House.of(50);
        House.players(x, 0);
        for (int wrong = 0; wrong <= 20; wrong++) {
            for (int i = 0; i < 20; i++) {
                x.tell(4 * (i + 1) + (i == wrong ? 1 : 0));
            }
            due("the one at " + wrong + " is wrong", x.check(), wrong < 20 ? wrong + 1 : 0);
        }
        due("none wait", x.count(8), 0);
        UnderstudyHouse y = House.of(20);
        House.players(y, 0);
        y.tell(4);
        y.tell(4);
        y.tell(4);
        due("behind the last one as behind that", y.check(), 0);
        y.tell(0);
        due("never behind none, if there is one", y.check(), 1);
        y.nights(1);
        y.tell(4);
        y.tell(4);
        due("behind none, if there is none", y.check(), 0);
        y.tell(4);
        y.tell(5);
        y.tell(5);
        due("the first that isn't so", y.check(), 2);
        due("no player: 0", House.after(new UnderstudyHouse(), z -> z.tell(0)).check(), 0);
        due("no player: not 1", House.after(new UnderstudyHouse(), z -> z.tell(1)).check(), 1);
    }

    private static void countEnds() {
        UnderstudyHouse x = full();
        Due.text(x, 0, "999");
        Due.text(x, 1, "99");
        x.nights(60);
        x.nights(60);
        due("parts", x.count(0), 5);
        due("players", x.count(1), 6);
        due("night", x.count(2), 120);
        due("applause of all, each held", x.count(4), 5 * 99999);
        due("purses of all, each held", x.count(5), 5 * 9999);
        for (int player = 0; player < 6; player++) {
            x.change(player, 3, 1);
        }
        due("all are ill", x.count(6), 63);
        Due.feed(x, "l".repeat(50));
        due("a full tape", x.count(7), 50);
        for (int i = 0; i < 20; i++) {
            x.tell(i);
        }
        due("all that can wait", x.count(8), 20);
        x.become(0, 60);
        x.voice(0, 3, 0);
        due("nine bodies", x.count(9), 9);
        x.seed(MIN);
        due("z", x.count(10), MIN);
    }

    private static void toldEnds() {
        UnderstudyHouse x = House.of(0);
        for (int i = 1; i <= 3; i++) {
            x.first(9);
            due("BEYOND " + i, x.told(1), i);
            x.judge(0);
            due("NONE " + i, x.told(2), i);
            x.sheet(0, 8, -1);
            due("STATE " + i, x.told(3), i);
            x.feed(0, 8);
        }
        x.feed(0, 8);
        x.feed(0, 8);
        x.feed(0, 8);
        due("FULL, not yet", x.told(4), 0);
        x.feed(0, 8);
        due("FULL", x.told(4), 1);
        x.as(0, 1);
        due("KIND", x.told(5), 1);
        due("0", x.told(0), BEYOND);
        due("6", x.told(6), BEYOND);
        due("both are counted, too", x.told(1), 5);
        due("no error by asking", x.told(1), 5);
    }

    /** What is answered up to the 512th call. */
    private static void allCalls() {
        UnderstudyHouse x = new UnderstudyHouse();
        for (int i = 1; i <= 511; i++) {
            due("image " + i, x.image(), i);
        }
        due("the 512th call", x.restore(), 0);
        UnderstudyHouse y = new UnderstudyHouse();
        for (int i = 1; i <= 511; i++) {
            y.restore();
        }
        due("all 511 are told", y.told(2), 511);
    }
}
