/** Each promise of the document by runs worked out by hand: ordinary inputs, the edges, wrong inputs. */
public final class PromiseTest {
    private static final int BEYOND = Due.BEYOND;
    private static final int NONE = Due.NONE;
    private static final int STATE = Due.STATE;
    private static final int FULL = Due.FULL;
    private static final int KIND = Due.KIND;
    private static final int MIN = Integer.MIN_VALUE;
    private static final int MAX = Integer.MAX_VALUE;
    private static final Due DUE = new Due();

    private static void due(String call, long got, long want) {
        DUE.due(call, got, want);
    }

    public static void main(String[] args) {
        promise1();
        promise2();
        promise3();
        promise3May();
        promise4();
        promise5();
        promise6();
        promise7();
        promise8();
        promise9();
        promise10();
        promise11();
        promise12();
        promise12Faults();
        promise13();
        promise13Default();
        promise14();
        promise14Errors();
        promise14Held();
        promise15();
        promise16();
        promise17();
        promise18();
        promise19();
        promise20();
        promise21();
        promise22();
        promise23();
        promise24();
        promise25();
        promise26();
        promise27();
        promise28();
        promise29();
        promise30();
        promise31();
        promise32();
        promise33();
        promise34();
        promise35();
        promise36();
        promise37();
        promise38();
        promise39();
        promise40();
        promise41();
        DUE.end();
    }

    private static void promise1() {
        UnderstudyHouse x = new UnderstudyHouse();
        for (int what = 0; what <= 9; what++) {
            due("new: count " + what, x.count(what), 0);
        }
        due("new: z", x.count(10), 1);
        due("new: castings", x.castings(), 1);
        due("new: restore", x.restore(), NONE);
        due("new: trace", x.trace(0), NONE);
        due("new: loads", x.loads(0), NONE);
        due("new: told 2", x.told(2), 3);
        due("new: told 1", x.told(1), 0);
    }

    private static void promise2() {
        UnderstudyHouse x = new UnderstudyHouse();
        due("part lowest", x.part(0, 0), 0);
        due("part highest", x.part(69, 99), 1);
        due("part km -1", x.part(-1, 0), BEYOND);
        due("part km 70", x.part(70, 0), BEYOND);
        due("part lines -1", x.part(0, -1), BEYOND);
        due("part lines 100", x.part(0, 100), BEYOND);
        due("part 2", x.part(10, 1), 2);
        due("part 3", x.part(20, 1), 3);
        due("part 4", x.part(30, 1), 4);
        due("part 5", x.part(0, 1), FULL);
        due("part beyond ahead of full", x.part(0, 100), BEYOND);
        due("parts", x.count(0), 5);
        due("kind", x.ofPart(1, 0), 6);
        due("m", x.ofPart(1, 1), 9);
        due("lines", x.ofPart(1, 2), 99);
    }

    private static void promise3() {
        UnderstudyHouse x = House.of(7, 35);
        House.players(x, 1, 3);
        due("kind", x.ofPart(1, 0), 3);
        due("m", x.ofPart(0, 1), 7);
        due("lines", x.ofPart(0, 2), 30);
        due("applause", x.ofPart(0, 3), 0);
        due("empty: no", x.ofPart(0, 4), 0);
        due("empty: yes", x.ofPart(1, 4), 1);
        due("may", x.ofPart(0, 5), 3);
        due("knows", x.ofPart(0, 6), 3);
        due("knows dead", x.ofPart(1, 6), 2);
        x.nights(1);
        due("applause after", x.ofPart(0, 3), 32);
        due("applause of dead", x.ofPart(1, 3), 0);
        due("may after", x.ofPart(0, 5), 2);
        due("what 7", x.ofPart(0, 7), BEYOND);
        due("what -1", x.ofPart(0, -1), BEYOND);
        due("part 2", x.ofPart(2, 0), BEYOND);
        due("part -1", x.ofPart(-1, 0), BEYOND);
    }

    /** Player 0 knows all, 1 knows none, 2 has played all, 3 is engaged as all in turn, 4 is ill. */
    private static void promise3May() {
        int[][] due = {
            // plain, on a gala, at an odd night
            {0, 1, 8, 1}, {10, 1, 8, 1}, {20, 11, 11, 11}, {30, 0, 0, 0}, {40, 1, 8, 1}, {50, 15, 15, 15}, {60, 0, 0, 8}
        };
        for (int[] row : due) {
            UnderstudyHouse x = House.of(row[0], 30);
            House.players(x, 3, 0, 3, 3, 3);
            x.change(2, 1, 3);
            x.change(3, 2, 0);
            x.change(4, 3, 1);
            due("may of " + row[0], x.ofPart(0, 5), row[1]);
            x.gala(1);
            due("may on a gala of " + row[0], x.ofPart(0, 5), row[2]);
            x.gala(0);
            x.change(0, 3, 1);
            x.become(0, 30);
            due("a night goes by", x.nights(1), 1);
            x.change(0, 3, 0);
            x.become(0, row[0]);
            due("may at an odd night of " + row[0], x.ofPart(0, 5), row[3]);
            due("empty at an odd night " + row[0], x.ofPart(0, 4), row[0] == 30 ? 1 : 0);
        }
        UnderstudyHouse x = House.of(40);
        House.players(x, 1, 1, 0);
        x.change(0, 1, 1);
        x.lines(0, 50);
        due("split of 50 lines", x.ofPart(0, 5), 2);
        x.lines(0, 51);
        due("split of 51 lines", x.ofPart(0, 5), 3);
        x.change(0, 2, 0);
        x.gala(1);
        due("split of 51 lines on a gala", x.ofPart(0, 5), 3);
        x.lines(0, 50);
        due("split of 50 lines on a gala", x.ofPart(0, 5), 1);
    }

    private static void promise4() {
        UnderstudyHouse x = House.of(0);
        due("lines 99", x.lines(0, 99), 30);
        due("lines 0", x.lines(0, 0), 99);
        due("lines 100", x.lines(0, 100), BEYOND);
        due("lines -1", x.lines(0, -1), BEYOND);
        due("lines of none", x.lines(1, 0), BEYOND);
        due("lines of -1", x.lines(-1, 0), BEYOND);
        due("lines", x.ofPart(0, 2), 0);
    }

    private static void promise5() {
        UnderstudyHouse x = House.of(14);
        House.players(x, 1);
        x.nights(1);
        due("become", x.become(0, 69), 1);
        due("become again", x.become(0, 20), 6);
        due("become 70", x.become(0, 70), BEYOND);
        due("become -1", x.become(0, -1), BEYOND);
        due("become of none", x.become(1, 0), BEYOND);
        due("kind", x.ofPart(0, 0), 2);
        due("m", x.ofPart(0, 1), 0);
        due("lines stay", x.ofPart(0, 2), 30);
        due("applause stays", x.ofPart(0, 3), 31);
    }

    private static void promise6() {
        String[] under = {"0", "01", "02", "03", "014", "025", "036"};
        UnderstudyHouse x = House.of(0);
        for (int kind = 0; kind < 7; kind++) {
            x.become(0, kind * 10 + kind);
            for (int top = 0; top < 7; top++) {
                boolean so = under[kind].indexOf('0' + top) >= 0;
                due(kind + " as " + top, x.as(0, top), so ? kind : KIND);
            }
        }
        due("as 7", x.as(0, 7), BEYOND);
        due("as -1", x.as(0, -1), BEYOND);
        due("as of none", x.as(1, 0), BEYOND);
        due("told 5", x.told(5), 49 - 16);
    }

    private static void promise7() {
        UnderstudyHouse x = House.of(0, 0);
        due("player as none", x.player(-1), 0);
        due("player as 1", x.player(1), 1);
        due("knows his own", x.ofPlayer(1, 0), 2);
        due("own", x.ofPlayer(1, 2), 1);
        due("knows none", x.ofPlayer(0, 0), 0);
        due("player as 2", x.player(2), BEYOND);
        due("player as -2", x.player(-2), BEYOND);
        for (int i = 2; i < 6; i++) {
            due("player", x.player(0), i);
        }
        due("player 6", x.player(0), FULL);
        due("beyond ahead of full", x.player(2), BEYOND);
        due("players", x.count(1), 6);
    }

    private static void promise8() {
        UnderstudyHouse x = House.of(0, 20, 50);
        x.player(0);
        House.players(x, 7);
        due("knows", x.ofPlayer(0, 0), 1);
        due("played", x.ofPlayer(0, 1), 0);
        due("own", x.ofPlayer(0, 2), 0);
        due("own none", x.ofPlayer(1, 2), -1);
        due("purse", x.ofPlayer(0, 3), 0);
        due("ill", x.ofPlayer(0, 4), 0);
        due("may", x.ofPlayer(0, 5), 6);
        due("may all", x.ofPlayer(1, 5), 7);
        x.change(1, 3, 1);
        due("ill", x.ofPlayer(1, 4), 1);
        due("may none", x.ofPlayer(1, 5), 0);
        due("what 6", x.ofPlayer(0, 6), BEYOND);
        due("what -1", x.ofPlayer(0, -1), BEYOND);
        due("player 2", x.ofPlayer(2, 0), BEYOND);
        due("player -1", x.ofPlayer(-1, 0), BEYOND);
    }

    private static void promise9() {
        UnderstudyHouse x = House.of(0, 0);
        x.player(1);
        due("knows", x.change(0, 0, 3), 2);
        due("knows none", x.change(0, 0, 0), 3);
        due("knows 4", x.change(0, 0, 4), BEYOND);
        due("knows -1", x.change(0, 0, -1), BEYOND);
        due("played", x.change(0, 1, 3), 0);
        due("played 4", x.change(0, 1, 4), BEYOND);
        due("played -1", x.change(0, 1, -1), BEYOND);
        due("own", x.change(0, 2, -1), 1);
        due("own was none", x.change(0, 2, 0), -1);
        due("own -2", x.change(0, 2, -2), BEYOND);
        due("own 2", x.change(0, 2, 2), BEYOND);
        due("ill", x.change(0, 3, 1), 0);
        due("well", x.change(0, 3, 0), 1);
        due("ill 2", x.change(0, 3, 2), BEYOND);
        due("ill -1", x.change(0, 3, -1), BEYOND);
        due("what 4", x.change(0, 4, 0), BEYOND);
        due("what -1", x.change(0, -1, 0), BEYOND);
        due("player 1", x.change(1, 0, 0), BEYOND);
        due("knows nothing by own", x.ofPlayer(0, 0), 0);
        due("played", x.ofPlayer(0, 1), 3);
        due("own", x.ofPlayer(0, 2), 0);
        due("ill", x.ofPlayer(0, 4), 0);
    }

    private static void promise10() {
        UnderstudyHouse x = House.of(0);
        x.player(0);
        due("castings", x.castings(), 0);
        due("gala", x.gala(1), 0);
        due("castings on it", x.castings(), 1);
        due("gala again", x.gala(1), 1);
        due("gala 2", x.gala(2), BEYOND);
        due("gala -1", x.gala(-1), BEYOND);
        due("gala", x.count(3), 1);
        due("off", x.gala(0), 1);
        due("gala", x.count(3), 0);
    }

    private static void promise11() {
        UnderstudyHouse x = new UnderstudyHouse();
        due("feed 0", x.feed(0, 0), BEYOND);
        due("feed 9", x.feed(0, 9), BEYOND);
        due("feed -1", x.feed(0, -1), BEYOND);
        for (int i = 1; i <= 6; i++) {
            due("feed 8", x.feed(-1L, 8), 8 * i);
        }
        due("feed past 50", x.feed(0, 3), FULL);
        due("feed to 50", x.feed(0, 2), 50);
        due("feed 1 more", x.feed(0, 1), FULL);
        due("beyond ahead of full", x.feed(0, 9), BEYOND);
        due("bytes", x.count(7), 50);
        due("a text of bytes 255", x.text(0), -10);
        due("bytes", x.count(7), 0);
        due("the lowest first", x.feed('l' | '+' << 8 | '1' << 16 | (long) '?' << 24, 3), 3);
        due("as a text", x.text(0), 1);
        due("as a law", x.law(0, 4, 0, 0), 5);
    }

    private static void promise12() {
        UnderstudyHouse x = new UnderstudyHouse();
        due("text", Due.text(x, 0, "l-m"), 1);
        due("law", x.law(0, 9, 4, 0), 5);
        Due.feed(x, "7");
        due("text 2", x.text(2), BEYOND);
        due("text -1", x.text(-1), BEYOND);
        due("the tape stays", x.count(7), 1);
        due("text in place", x.text(0), 1);
        due("the tape is empty", x.count(7), 0);
        due("law", x.law(0, 9, 4, 0), 7);
        due("a fault", Due.text(x, 0, "5+"), -12);
        due("the tape is empty, too", x.count(7), 0);
        due("the one ahead stays", x.law(0, 9, 4, 0), 7);
        due("no error", x.told(1), 2);
        due("the other use", x.law(1, 30, 0, 0), 4);
        due("names of the wage", Due.text(x, 1, "l*100+p*10+n"), 1);
        due("law", x.law(1, 0, 7, 8), 78);
        due("names of the claps", Due.text(x, 0, "l*100+m*10+k"), 1);
        due("law", x.law(0, 6, 7, 8), 678);
    }

    private static void promise12Faults() {
        String[] texts = {
            "", "1<2<3", "1<2=3", "1>2>", "12345", "1 +1", " 1", "(1", "1)", "()", "!", "!!!!!!1", "((((((1", "(!(!(l",
            "(!(!(!l", "p", "n", "x", "lm", "1l", "l1", "1&", "1||1", "+1", "1*-1", "\u00e9", "1\u00e9", "(1<2<3)",
            "!!!!!1*!!!!!!1", "1==2", "l%", "\u0000"
        };
        int[] faults = {
            0, 3, 3, 3, 4, 1, 0, 2, 1, 1, 1, 5, 5, 6,
            5, 0, 0, 0, 1, 1, 1, 2, 2, 0, 2, 0, 1, 4,
            12, 2, 2, 0
        };
        UnderstudyHouse x = new UnderstudyHouse();
        for (int i = 0; i < texts.length; i++) {
            due("fault of " + texts[i], Due.text(x, 0, texts[i]), -10 - faults[i]);
        }
        due("m is no name of the wage", Due.text(x, 1, "l+m"), -12);
        due("k is no name of the wage", Due.text(x, 1, "k"), -10);
        due("no text of 50 bytes", Due.text(x, 0, "1+".repeat(25)), -60);
        due("a text of 49 bytes", Due.text(x, 0, "1+".repeat(24) + "1"), 1);
        due("law", x.law(0, 0, 0, 0), 25);
    }

    private static void promise13() {
        Object[][] rows = {
            {"2+3*4", 0, 0, 0, 14}, {"(2+3)*4", 0, 0, 0, 20}, {"10-2-3", 0, 0, 0, 5}, {"100/7/2", 0, 0, 0, 7},
            {"17%5*2", 0, 0, 0, 4}, {"1|0&0", 0, 0, 0, 1}, {"(1|0)&0", 0, 0, 0, 0}, {"1<2&2<1", 0, 0, 0, 0},
            {"2|0", 0, 0, 0, 1}, {"2&4", 0, 0, 0, 1}, {"0|0", 0, 0, 0, 0}, {"l<m", -1, 0, 0, 1}, {"l<m", 0, 0, 0, 0},
            {"l>m", 1, 0, 0, 1}, {"l>m", 0, 0, 0, 0}, {"l=m", 3, 3, 0, 1}, {"l=m", 3, 4, 0, 0}, {"1+1=2", 0, 0, 0, 1},
            {"!l", 0, 0, 0, 1}, {"!l", -7, 0, 0, 0}, {"!!l", 9, 0, 0, 1}, {"!l+1", 5, 0, 0, 1}, {"!(l+1)", -1, 0, 0, 1},
            {"!l*7", 0, 0, 0, 7}, {"5+l/0", 9, 0, 0, 5}, {"5+l%0", 9, 0, 0, 5}, {"10+l/2", -7, 0, 0, 7},
            {"10+l%2", -7, 0, 0, 9}, {"l/m=l", MIN, -1, 0, 1}, {"l%m", MIN, -1, 0, 0}, {"l*l<0", 50000, 0, 0, 1},
            {"l+1<l", MAX, 0, 0, 1}, {"l-1>l", MIN, 0, 0, 1}, {"0012", 0, 0, 0, 12}, {"9999", 0, 0, 0, 999},
            {"0-1", 0, 0, 0, 0}, {"(((((3)))))", 0, 0, 0, 3}, {"!!!!!3", 0, 0, 0, 0}, {"m", 1, 2, 3, 2}, {"k", 1, 2, 3, 3}
        };
        UnderstudyHouse x = new UnderstudyHouse();
        for (Object[] row : rows) {
            due("text " + row[0], Due.text(x, 0, (String) row[0]), 1);
            int got = x.law(0, (Integer) row[1], (Integer) row[2], (Integer) row[3]);
            due("law by " + row[0], got, (Integer) row[4]);
        }
        Due.text(x, 1, "l");
        due("the wage's most", x.law(1, 100, 0, 0), 99);
        due("the wage's least", x.law(1, -1, 0, 0), 0);
        due("no such use", x.law(2, 0, 0, 0), BEYOND);
        due("no such use", x.law(-1, 0, 0, 0), BEYOND);
    }

    private static void promise13Default() {
        UnderstudyHouse x = new UnderstudyHouse();
        due("claps", x.law(0, 30, 8, 2), 32);
        due("claps at most", x.law(0, 999, 0, 1), 999);
        due("claps at least", x.law(0, -5, 9, 1), 0);
        due("wage", x.law(1, 39, 5, 5), 4);
        due("wage of few", x.law(1, 9, 5, 5), 1);
        due("wage at most", x.law(1, 990, 0, 0), 99);
        due("wage at least", x.law(1, -99, 0, 0), 0);
    }

    /** Two doubled parts, a dead one, a part; texts that read what was ahead of the night. */
    private static void promise14() {
        UnderstudyHouse x = House.of(12, 13, 34, 5);
        House.players(x, 11, 8, 0);
        x.gala(1);
        x.gala(0);
        Due.text(x, 0, "l+m*10+k*100");
        Due.text(x, 1, "1+p*20+n*7");
        Due.row(x, 0, 8, 0, 0, -1, 1);
        due("cast", x.cast(0), 1);
        due("night", x.count(2), 1);
        due("applause 0", x.ofPart(0, 3), 150);
        due("applause 1", x.ofPart(1, 3), 160);
        due("applause of an empty one", x.ofPart(2, 3), 0);
        due("applause 3", x.ofPart(3, 3), 280);
        due("purse by what was ahead", x.ofPlayer(0, 3), 2);
        due("purse 1", x.ofPlayer(1, 3), 1);
        due("purse 2", x.ofPlayer(2, 3), 0);
        due("played 0", x.ofPlayer(0, 1), 3);
        due("played 1", x.ofPlayer(1, 1), 8);
        due("played 2", x.ofPlayer(2, 1), 0);
        due("learnt what was beside", x.ofPlayer(0, 0), 15);
        due("learnt the empty one", x.ofPlayer(1, 0), 12);
        due("learnt nothing", x.ofPlayer(2, 0), 0);
        x.change(1, 0, 15);
        Due.row(x, 1, 16, 1, 1, -1, 0);
        due("cast again", x.cast(1), 2);
        due("purse 0", x.ofPlayer(0, 3), 2 + 1 + 40 + 7);
        due("purse 1", x.ofPlayer(1, 3), 1 + 2 * (1 + 20 + 7));
        due("the same again", x.cast(1), STATE);
    }

    private static void promise14Errors() {
        UnderstudyHouse x = House.of(0);
        x.player(0);
        House.players(x, 1);
        due("no such sheet", x.cast(4), BEYOND);
        due("no such sheet", x.cast(-1), BEYOND);
        due("missing", x.cast(0), NONE);
        Due.row(x, 0, 8, 1, 0);
        due("too many", x.cast(0), STATE);
        Due.row(x, 0, 8);
        due("one lacks", x.cast(0), STATE);
        Due.row(x, 0, 8, 0);
        due("his own", x.cast(0), STATE);
        due("nothing changed", x.count(2) + x.count(4) + x.count(5) + x.ofPlayer(0, 1), 0);
        x.gala(1);
        due("his own on a gala", x.cast(0), 1);
        due("gala is over", x.count(3), 0);
        UnderstudyHouse none = new UnderstudyHouse();
        none.sheet(0, 32, 0);
        due("a night without parts", none.cast(0), 1);
    }

    private static void promise14Held() {
        UnderstudyHouse x = House.old(9999);
        due("night", x.count(2), 9999);
        x.sheet(0, 8, 0);
        due("cast at 9999", x.cast(0), STATE);
        due("nights at 9999", x.nights(5), 0);
        due("season beyond 9999", x.season(), 60);
        due("loose beyond 9999", x.loose(1), STATE);
        UnderstudyHouse y = House.of(50);
        House.players(y, 0);
        Due.text(y, 0, "999");
        Due.text(y, 1, "99");
        due("nights", y.nights(60) + y.nights(40), 100);
        due("applause", y.ofPart(0, 3), 99900);
        due("purse", y.ofPlayer(0, 3), 9900);
        due("nights", y.nights(1), 1);
        due("applause held", y.ofPart(0, 3), 99999);
        due("purse at its most", y.ofPlayer(0, 3), 9999);
        due("nights", y.nights(9), 9);
        due("applause held", y.ofPart(0, 3), 99999);
        due("purse held", y.ofPlayer(0, 3), 9999);
    }

    private static void promise15() {
        UnderstudyHouse x = House.of(0);
        House.players(x, 1, 1, 0);
        due("nights 0", x.nights(0), BEYOND);
        due("nights 61", x.nights(61), BEYOND);
        due("nights 1", x.nights(1), 1);
        due("the first plays", x.ofPlayer(0, 1), 1);
        due("nights 60", x.nights(60), 1);
        due("the second plays", x.ofPlayer(1, 1), 1);
        due("night", x.count(2), 2);
        due("none any more", x.nights(1), 0);
        UnderstudyHouse y = House.old(9999);
        due("night 9999", y.count(2), 9999);
        UnderstudyHouse z = House.of(60);
        House.players(z, 0);
        z.change(0, 2, 0);
        due("a ghost's nights", z.nights(60), 60);
        due("every other one is played", z.ofPlayer(0, 3), 30 * 4);
        z.change(0, 2, -1);
        due("a ghost of nobody", z.nights(60), 1);
    }

    /** z from 1 on: 1103527590 >>> 8 is 4310654, 2524885223 >>> 8 is 9862832. */
    private static void promise16() {
        UnderstudyHouse x = House.of(50);
        House.players(x, 0, 0, 0);
        due("loose 0", x.loose(0), BEYOND);
        due("loose 41", x.loose(41), BEYOND);
        due("loose 1", x.loose(1), 4);
        due("z", x.count(10), 1103527590);
        due("4310654 % 3 is 2", x.count(6), 1 << 4310654 % 3);
        due("loose 1", x.loose(1), 8);
        due("z", x.count(10), (int) 2524885223L);
        due("ill", x.count(6), 1 << 4310654 % 3 ^ 1 << 9862832 % 3);
        UnderstudyHouse y = House.of(0);
        House.players(y, 0);
        y.gala(1);
        due("no casting", y.loose(3), 0);
        due("gala stays", y.count(3), 1);
        due("nights go by", y.count(2), 3);
        due("ill after three", y.count(6), 1);
        UnderstudyHouse z = new UnderstudyHouse();
        z.gala(1);
        due("nobody", z.loose(40), 0);
        due("no draw", z.count(10), 1);
        due("gala over", z.count(3), 0);
        for (int i = 0; i < 165; i++) {
            z.nights(60);
        }
        due("night", z.count(2), 9940);
        due("loose", z.loose(20), 0);
        due("night would be 10000", z.loose(40), STATE);
        due("to 9999", z.loose(39), 0);
        due("night", z.count(2), 9999);
    }

    private static void promise17() {
        UnderstudyHouse x = House.of(0, 10, 30, 0);
        House.players(x, 8, 11, 3);
        int[] due = {1, 1, -1, 0};
        for (int part = 0; part < 4; part++) {
            due("first of " + part, x.first(part), due[part]);
        }
        due("first of 4", x.first(4), BEYOND);
        due("first of -1", x.first(-1), BEYOND);
        x.change(0, 3, 1);
        due("who is left", x.first(0), 2);
        due("who is left", x.first(3), 1);
        x.change(1, 3, 1);
        due("no casting", x.first(0), NONE);
        due("no casting", x.first(2), NONE);
    }

    private static void promise18() {
        UnderstudyHouse x = House.of(20, 50, 20);
        House.players(x, 0, 0, 0, 0, 0, 0);
        due("one each", x.castings(), 6 * 5 * 4);
        x.part(0, 5);
        due("one blocked", x.castings(), 0);
        x.become(3, 30);
        due("one empty", x.castings(), 6 * 5 * 4);
        UnderstudyHouse y = House.of(10, 10, 40, 40, 10);
        House.players(y, 31, 31, 31, 31, 31, 31);
        due("all doubled", y.castings(), 6 * 6 * 6 * 6 * 6);
        y.become(0, 0);
        y.become(4, 0);
        due("two that aren't", y.castings(), 6 * 6 * 6 * 6 * 5);
        due("nobody and nothing", new UnderstudyHouse().castings(), 1);
        due("nobody", House.of(20).castings(), 0);
    }

    private static void promise19() {
        UnderstudyHouse x = House.of(0, 0);
        House.players(x, 1, 2);
        due("season", x.season(), 2);
        due("only thought", x.count(2) + x.count(4) + x.count(5) + x.ofPlayer(0, 1), 0);
        due("at most 60", House.of(30).season(), 60);
        due("none at all", House.of(50).season(), 0);
        UnderstudyHouse y = House.of(0);
        y.player(0);
        due("no gala", y.season(), 0);
        y.gala(1);
        due("gala for one night", y.season(), 1);
        due("gala is still", y.count(3), 1);
    }

    private static void promise20() {
        UnderstudyHouse x = House.of(0, 0);
        House.players(x, 1, 2);
        due("behind 0", x.then(0, 0, 0), 1);
        due("behind 1 knows", x.then(1, 0, 0), 3);
        due("behind 1 played", x.then(1, 0, 1), 1);
        due("behind 1 purse", x.then(1, 0, 2), 4);
        due("behind 2 played", x.then(2, 1, 1), 3);
        due("behind 60 purse", x.then(60, 1, 2), 8);
        due("n -1", x.then(-1, 0, 0), BEYOND);
        due("n 61", x.then(61, 0, 0), BEYOND);
        due("player 2", x.then(1, 2, 0), BEYOND);
        due("player -1", x.then(1, -1, 0), BEYOND);
        due("what 3", x.then(1, 0, 3), BEYOND);
        due("what -1", x.then(1, 0, -1), BEYOND);
        due("only thought", x.ofPlayer(0, 0), 1);
    }

    private static void promise21() {
        UnderstudyHouse x = House.of(0, 0, 30, 30);
        House.players(x, 1, 2);
        due("at once", x.learns(0, 0), 0);
        due("behind 1", x.learns(0, 1), 1);
        due("behind 2", x.learns(0, 2), 2);
        due("behind 1", x.learns(1, 2), 1);
        due("never", x.learns(0, 3), NONE);
        due("player 2", x.learns(2, 0), BEYOND);
        due("player -1", x.learns(-1, 0), BEYOND);
        due("part 4", x.learns(0, 4), BEYOND);
        due("part -1", x.learns(0, -1), BEYOND);
        UnderstudyHouse y = House.of(50, 30, 0);
        House.players(y, 0);
        y.become(2, 30);
        due("not by then", y.learns(0, 2), NONE);
        due("beside it", y.learns(0, 1), 1);
        due("not his own number", y.learns(0, 0), NONE);
    }

    private static void promise22() {
        UnderstudyHouse x = House.of(0, 30, 60, 20, 50);
        due("nobody at all", x.blocked(), 25);
        House.players(x, 0);
        due("who knows nothing", x.blocked(), 1);
        x.change(0, 3, 1);
        due("who is ill", x.blocked(), 25);
        x.change(0, 3, 0);
        x.change(0, 0, 1);
        due("none", x.blocked(), 0);
        x.change(0, 1, 8);
        due("who has played", x.blocked(), 8);
        due("an odd night", x.loose(1), 0);
        due("a ghost of nobody", x.blocked(), 29);
    }

    private static void promise23() {
        UnderstudyHouse x = House.of(0, 0);
        House.players(x, 1, 3, 2, 0);
        due("who knows nothing", x.idle(), 8);
        x.change(2, 3, 1);
        due("the second is needed", x.idle(), 12);
        x.change(1, 3, 1);
        due("no casting", x.idle(), 15);
        due("nobody", new UnderstudyHouse().idle(), 0);
        UnderstudyHouse y = House.of(0, 0);
        House.players(y, 1, 3, 1);
        due("all", y.idle(), 0);
        UnderstudyHouse z = House.of(30);
        House.players(z, 1, 1);
        due("all parts are empty", z.idle(), 3);
    }

    private static void promise24() {
        UnderstudyHouse x = House.of(0, 0, 30);
        House.players(x, 7, 7, 7);
        Due.row(x, 0, 8, 0, 1, -1);
        due("without 0", x.changes(0, 0), 1);
        due("without 1", x.changes(0, 1), 1);
        due("without 2", x.changes(0, 2), 0);
        Due.row(x, 0, 32, 0, 1, 0);
        due("an empty one told otherwise", x.changes(0, 2), 1);
        Due.row(x, 0, 16, 9, 9, 9);
        due("all", x.changes(0, 0), 3);
        x.change(2, 0, 1);
        Due.row(x, 0, 16, 1, 0, -1);
        due("two, as one knows but one", x.changes(0, 0), 2);
        due("no such casting", x.changes(0, 1) == NONE ? 1 : 0, 0);
        x.change(2, 3, 1);
        due("no such casting", x.changes(0, 0), NONE);
        UnderstudyHouse y = House.of(50, 50, 10, 40, 10);
        House.players(y, 31, 31);
        Due.row(y, 0, 8, 0, 0, 0, 0, 0);
        due("all five", y.changes(0, 0), NONE);
        y.become(1, 30);
        due("all five, the empty one by what was told", y.changes(0, 0), 5);
        due("sheet 4", x.changes(4, 0), BEYOND);
        due("sheet -1", x.changes(-1, 0), BEYOND);
        due("player 3", x.changes(0, 3), BEYOND);
        due("beyond ahead of none", x.changes(1, 3), BEYOND);
        due("missing", x.changes(1, 0), NONE);
        Due.row(x, 1, 8, 0, 1);
        due("too short", x.changes(1, 0), NONE);
        Due.row(x, 1, 8, 0, 1, -1, 0);
        due("too long", x.changes(1, 0), NONE);
    }

    private static void promise25() {
        UnderstudyHouse x = House.of(0, 0, 0);
        House.players(x, 1, 2, 5);
        due("nobody", x.tells(0), 0);
        due("0", x.tells(1), 1);
        due("0 and 1", x.tells(3), 3);
        due("1 and 2", x.tells(6), 7);
        due("8", x.tells(8), BEYOND);
        due("-1", x.tells(-1), BEYOND);
        due("they don't learn by it", x.ofPlayer(0, 0), 1);
    }

    private static void promise26() {
        UnderstudyHouse x = House.of(10, 10, 30);
        House.players(x, 3, 3, 0);
        Due.row(x, 0, 8, 4, 4, 0);
        due("one each", x.fits(0, -1), 2);
        due("the least", x.fits(0, 0), 0);
        due("the least", x.fits(0, 1), 1);
        due("empty", x.fits(0, 2), -1);
        Due.row(x, 0, 32, 0, 8, 0);
        due("one for both", x.fits(0, -1), 1);
        due("he", x.fits(0, 0), 1);
        Due.row(x, 0, 32, 0, 8, 1);
        due("none so", x.fits(0, -1), 0);
        due("none so", x.fits(0, 0), NONE);
        due("what 3", x.fits(0, 3), BEYOND);
        due("what -2", x.fits(0, -2), BEYOND);
        due("sheet 4", x.fits(4, -1), BEYOND);
        due("sheet -1", x.fits(-1, -1), BEYOND);
        due("missing", x.fits(1, -1), NONE);
        due("beyond ahead of none", x.fits(1, 3), BEYOND);
        Due.row(x, 1, 8, 4, 4);
        due("too short", x.fits(1, -1), NONE);
        due("only thought", x.count(5), 0);
        UnderstudyHouse y = House.of(50);
        House.players(y, 0);
        Due.text(y, 1, "99");
        y.nights(60);
        y.nights(41);
        Due.row(y, 0, 16, 9999);
        due("held at the most", y.fits(0, -1), 1);
    }

    private static void promise27() {
        UnderstudyHouse x = House.of(0);
        House.players(x, 1);
        due("one who knows it", x.spare(1), 1);
        due("one who doesn't", x.spare(0), 0);
        due("parts 2", x.spare(2), BEYOND);
        due("parts -1", x.spare(-1), BEYOND);
        due("only thought", x.count(1), 1);
        due("again the same", x.spare(1), 1);
        House.players(x, 0, 0, 0, 0);
        due("with five", x.spare(1), 1);
        House.players(x, 0);
        due("with six", x.spare(1), FULL);
        due("beyond ahead of full", x.spare(2), BEYOND);
        UnderstudyHouse y = House.of(50);
        due("nobody but one", y.spare(0), 60);
    }

    private static void promise28() {
        UnderstudyHouse x = new UnderstudyHouse();
        due("seed", x.seed(MIN), 1);
        due("seed", x.seed(BEYOND), MIN);
        due("seed", x.seed(0), BEYOND);
        due("no error by it", x.told(1), 0);
        due("z", x.count(10), 0);
    }

    private static void promise29() {
        // a part of number 2 and m 3 for x 5: speaks, enters, falls, tells of each kind
        int[][] due = {
            {7, 14, 2, 14 ^ 2},
            {7, 14 - (1 - 3), 2, 16 ^ 2},
            {21, 42, 2, 42 ^ 2},
            {7, 14, -2, 14 ^ -2},
            {7, (8 * 2) + 2, 2, 18 ^ 2},
            {21, 42, 2, (42 ^ 2) - 12},
            {7, 14, -2 ^ 2, 14 - (14 ^ -2 ^ 2)}
        };
        for (int kind = 0; kind < 7; kind++) {
            UnderstudyHouse x = House.of(0, 0, kind * 10 + 3);
            for (int act = 0; act < 4; act++) {
                due("voice of " + kind + " for " + act, x.voice(2, act, 5), due[kind][act]);
            }
        }
        UnderstudyHouse x = House.of(5);
        due("goes round", x.voice(0, 2, MIN), MAX - 4);
        due("any number", x.voice(0, 0, BEYOND), BEYOND);
        due("act 4", x.voice(0, 4, 0), BEYOND);
        due("act -1", x.voice(0, -1, 0), BEYOND);
        due("part 1", x.voice(1, 0, 0), BEYOND);
        due("part -1", x.voice(-1, 0, 0), BEYOND);
        due("told", x.told(1), 4);
    }

    private static void promise30() {
        int[][] due = {
            {13, 11, 10, 12}, {13, 20, 11, 10, 12, 12}, {13, 11, 30, 10, 12}, {13, 11, 10, 40, 12},
            {13, 50, 20, 11, 10, 12, 12}, {60, 13, 11, 30, 10, 12, 30, 10}, {71, 11, 10, 13, 11, 10, 70, 40, 12}
        };
        UnderstudyHouse x = House.of(0);
        for (int kind = 0; kind < 7; kind++) {
            x.become(0, kind * 10);
            x.voice(0, 3, 1);
            due("bodies", x.count(9), due[kind].length);
            for (int i = 0; i < due[kind].length; i++) {
                due("trace of " + kind + " at " + i, x.trace(i), due[kind][i]);
            }
            due("behind the trace", x.trace(due[kind].length), NONE);
        }
        due("an error leaves it", x.voice(1, 0, 0), BEYOND);
        due("trace", x.trace(0), 71);
        x.voice(0, 0, 0);
        due("the latest", x.trace(0), 10);
        due("but one", x.trace(1), NONE);
        due("trace -1", x.trace(-1), NONE);
        due("trace 40", x.trace(40), NONE);
    }

    private static void promise31() {
        UnderstudyHouse x = House.of(30, 30);
        due("sheet", x.sheet(0, 8, 40), 1);
        due("put at its end", x.put(0, 39, 1), 1);
        due("put behind it", x.put(0, 40, 1), BEYOND);
        x.put(0, 0, 7);
        x.put(0, 1, 8);
        due("anew", x.sheet(0, 16, 2), 1);
        due("loads", x.loads(0), 2);
        due("all are 0", x.ofPart(0, 2) + x.ofPart(1, 2), 0);
        due("no numbers", x.sheet(3, 32, 0), 1);
        due("loads none", x.loads(3), 0);
        due("n 41", x.sheet(0, 8, 41), BEYOND);
        due("n -1", x.sheet(0, 8, -1), STATE);
        due("n is the least", x.sheet(0, 8, MIN), STATE);
        due("bits 7", x.sheet(0, 7, 1), BEYOND);
        due("bits -8", x.sheet(0, -8, -1), BEYOND);
        due("bits 64", x.sheet(0, 64, 1), BEYOND);
        due("sheet 4", x.sheet(4, 8, -1), BEYOND);
        due("sheet -1", x.sheet(-1, 8, 1), BEYOND);
        due("it stays", x.loads(0), 2);
        due("bits 0", x.sheet(0, 0, -5), 1);
        due("missing", x.loads(0), NONE);
        due("bits 0 of many", x.sheet(0, 0, 99), 1);
    }

    private static void promise32() {
        UnderstudyHouse x = House.of(0);
        House.players(x, 1, 1);
        due("missing", x.put(0, 0, 0), NONE);
        due("missing ahead of no such number", x.put(0, -1, 0), NONE);
        due("sheet 4", x.put(4, 0, 0), BEYOND);
        due("sheet -1", x.put(-1, 0, 0), BEYOND);
        x.sheet(0, 8, 1);
        due("put 257 in 8 bits", x.put(0, 0, 257), 1);
        due("is 1", x.judge(0), -1);
        due("put 256 in 8 bits", x.put(0, 0, 0x7f00), 1);
        due("is 0", x.judge(0), -1);
        x.sheet(0, 16, 1);
        x.put(0, 0, 257);
        due("257 in 16 bits", x.judge(0), 0);
        x.put(0, 0, 65537);
        due("65537 in 16 bits", x.judge(0), -1);
        x.sheet(0, 32, 1);
        x.put(0, 0, 65537);
        due("65537 in 32 bits", x.judge(0), 0);
        due("number 1", x.put(0, 1, 0), BEYOND);
        due("number -1", x.put(0, -1, 0), BEYOND);
        x.become(0, 30);
        for (int bits = 8; bits <= 32; bits *= 2) {
            x.sheet(1, bits, 1);
            x.put(1, 0, -1);
            due("-1 in " + bits + " bits", x.judge(1), -1);
        }
    }

    private static void promise33() {
        UnderstudyHouse x = House.of(0, 0, 0, 0);
        Due.row(x, 0, 8, 1, 2, 3, 4);
        due("to the right", x.move(0, 0, 0, 1, 3), 3);
        lines(x, 0, 1, 1, 2, 3);
        due("to the left", x.move(0, 1, 0, 0, 3), 3);
        lines(x, 0, 1, 2, 3, 3);
        Due.row(x, 1, 8, 9, 9, 9, 9);
        due("all to the next", x.move(1, 0, 0, 0, 4), 4);
        lines(x, 0, 9, 9, 9, 9);
        Due.row(x, 0, 8, 1, 2, 3, 3);
        due("to another", x.move(0, 1, 1, 2, 2), 2);
        lines(x, 1, 9, 9, 2, 3);
        lines(x, 0, 1, 2, 3, 3);
        due("none at the end", x.move(0, 4, 1, 4, 0), 0);
        due("none behind it", x.move(0, 5, 1, 0, 0), BEYOND);
        due("none behind the other", x.move(0, 0, 1, 5, 0), BEYOND);
        due("n -1", x.move(0, 0, 1, 0, -1), BEYOND);
        due("i -1", x.move(0, -1, 1, 0, 1), BEYOND);
        due("j -1", x.move(0, 0, 1, -1, 1), BEYOND);
        due("too many", x.move(0, 0, 1, 0, 5), BEYOND);
        due("far too many", x.move(0, MAX, 1, MAX, MAX), BEYOND);
        due("past the end", x.move(0, 2, 1, 0, 3), BEYOND);
        due("past the other's end", x.move(0, 0, 1, 2, 3), BEYOND);
        due("missing", x.move(2, -1, 0, 0, 1), NONE);
        due("the other is missing", x.move(0, 0, 2, 0, 1), NONE);
        x.sheet(2, 16, 4);
        due("unlike bits", x.move(0, -1, 2, 0, 1), KIND);
        due("sheet 4", x.move(4, 0, 3, 0, 1), BEYOND);
        due("sheet -1", x.move(-1, 0, 0, 0, 1), BEYOND);
        due("other 4", x.move(3, 0, 4, 0, 1), BEYOND);
        lines(x, 1, 9, 9, 2, 3);
    }

    private static void lines(UnderstudyHouse x, int sheet, int... due) {
        due("loads", x.loads(sheet), due.length);
        for (int part = 0; part < due.length; part++) {
            due("lines " + part, x.ofPart(part, 2), due[part]);
        }
    }

    private static void promise34() {
        UnderstudyHouse x = House.of(0, 0, 0);
        Due.row(x, 0, 16, 99, 0, 100);
        due("up to 100", x.loads(0), 2);
        due("lines", x.ofPart(0, 2), 99);
        due("lines", x.ofPart(1, 2), 0);
        due("lines stay", x.ofPart(2, 2), 30);
        Due.row(x, 0, 16, -1, 5, 5);
        due("up to -1", x.loads(0), 0);
        Due.row(x, 0, 16, 1, 2, 3, 4);
        due("up to the last part", x.loads(0), 3);
        Due.row(x, 0, 16, 8);
        due("one", x.loads(0), 1);
        due("no error", x.told(1) + x.told(2), 0);
        due("missing", x.loads(1), NONE);
        due("sheet 4", x.loads(4), BEYOND);
        due("sheet -1", x.loads(-1), BEYOND);
    }

    private static void promise35() {
        UnderstudyHouse x = House.of(0, 30, 10, 0);
        House.players(x, 15, 15, 0);
        Object[][] rows = {
            {new int[] {0, -1, 0, 1}, -1}, {new int[] {0, -1, 1, 1}, -1}, {new int[] {0, -1, 1, 0}, 3},
            {new int[] {2, -1, 0, 1}, 0}, {new int[] {0, 0, 0, 1}, 1}, {new int[] {0, -2, 0, 1}, 1},
            {new int[] {-1, -1, 0, 1}, 0}, {new int[] {3, -1, 0, 1}, 0}, {new int[] {0, -1, 2, 9}, 2},
            {new int[] {}, 0}, {new int[] {0, -1, 0}, 3}, {new int[] {0, -1, 0, 1, 1}, 4},
            {new int[] {0, -1, 0, 0, 1}, 3}, {new int[] {0, -1, 0, 33}, 3}
        };
        for (Object[] row : rows) {
            Due.row(x, 0, 8, (int[]) row[0]);
            due("judge " + java.util.Arrays.toString((int[]) row[0]), x.judge(0), (Integer) row[1]);
        }
        due("missing", x.judge(1), NONE);
        due("sheet 4", x.judge(4), BEYOND);
        due("sheet -1", x.judge(-1), BEYOND);
        UnderstudyHouse y = new UnderstudyHouse();
        y.sheet(0, 8, 0);
        due("a row of none", y.judge(0), -1);
        y.sheet(0, 8, 1);
        due("a row of one for none", y.judge(0), 0);
    }

    private static void promise36() {
        UnderstudyHouse x = House.of(0);
        due("image", x.image(), 1);
        x.part(0, 0);
        due("image in place", x.image(), 2);
        x.part(0, 0);
        due("restore", x.restore(), 0);
        due("parts", x.count(0), 2);
        due("how often isn't kept", x.image(), 3);
    }

    private static void promise37() {
        UnderstudyHouse x = House.of(3);
        due("none", x.restore(), NONE);
        House.players(x, 1, 1);
        x.nights(1);
        x.change(1, 3, 1);
        x.gala(1);
        x.seed(77);
        x.tell(5);
        Due.text(x, 0, "l");
        Due.text(x, 1, "p");
        Due.feed(x, "7+");
        x.image();
        spoil(x);
        due("restore", x.restore(), 1);
        int[] due = {1, 2, 1, 1, 32, 4, 2, 2, 1, 4, 77};
        for (int what = 0; what < due.length; what++) {
            due("count " + what, x.count(what), due[what]);
        }
        due("claps", x.law(0, 8, 7, 6), 8);
        due("wage", x.law(1, 8, 7, 6), 7);
        due("kind and m", x.ofPart(0, 0) * 10 + x.ofPart(0, 1), 3);
        due("lines", x.ofPart(0, 2), 30);
        due("own", x.ofPlayer(0, 2), -1);
        due("knows", x.ofPlayer(0, 0), 1);
        due("played", x.ofPlayer(0, 1), 1);
        due("the sheet isn't kept", x.judge(0), 0);
        due("told isn't kept", x.told(2), 1);
        spoil(x);
        due("the image stays", x.restore(), 1);
        due("night", x.count(2), 1);
        Due.feed(x, "1");
        due("the tape", x.text(0), 1);
        due("its text", x.law(0, 0, 0, 0), 8);
    }

    private static void spoil(UnderstudyHouse x) {
        x.loose(3);
        x.become(0, 61);
        x.lines(0, 1);
        x.change(0, 0, 0);
        x.change(0, 1, 0);
        x.change(0, 2, 0);
        x.gala(0);
        x.seed(1);
        x.tell(6);
        x.part(0, 0);
        x.player(0);
        x.text(0);
        Due.text(x, 0, "1");
        Due.text(x, 1, "1");
        x.become(0, 0);
        x.voice(0, 3, 0);
        x.sheet(0, 8, 0);
    }

    private static void promise38() {
        UnderstudyHouse x = new UnderstudyHouse();
        for (int i = 1; i <= 20; i++) {
            due("tell", x.tell(i % 2 == 0 ? MIN : MAX), i);
        }
        due("tell 21", x.tell(0), FULL);
        due("told", x.told(4), 1);
        due("waiting", x.count(8), 20);
    }

    private static void promise39() {
        UnderstudyHouse x = House.of(0);
        House.players(x, 1, 1);
        due("none wait", x.check(), 0);
        told(x, 4, 8, 8, 8);
        due("all so", x.check(), 0);
        due("none wait", x.count(8), 0);
        told(x, 3);
        due("the first", x.check(), 1);
        told(x, 4, 8, 9, 1);
        due("the third", x.check(), 3);
        due("none wait", x.count(8), 0);
        due("only thought", x.count(5) + x.count(2), 0);
        x.nights(2);
        told(x, 8, 8, 7);
        due("no season", x.check(), 3);
    }

    private static void told(UnderstudyHouse x, int... numbers) {
        for (int v : numbers) {
            x.tell(v);
        }
    }

    private static void promise40() {
        UnderstudyHouse x = House.of(10, 10);
        House.players(x, 3, 3, 3);
        x.change(1, 3, 1);
        x.change(2, 3, 1);
        x.nights(1);
        x.gala(1);
        Due.feed(x, "abc");
        told(x, 1, 2);
        x.voice(0, 1, 0);
        x.seed(9);
        int[] due = {2, 3, 1, 1, 2 * 33, 2 * 4, 6, 3, 2, 4, 9};
        for (int what = 0; what < due.length; what++) {
            due("count " + what, x.count(what), due[what]);
        }
        due("count 11", x.count(11), BEYOND);
        due("count -1", x.count(-1), BEYOND);
    }

    private static void promise41() {
        UnderstudyHouse x = new UnderstudyHouse();
        x.restore();
        x.sheet(0, 8, -1);
        x.sheet(0, 8, -1);
        x.first(0);
        for (int k = 1; k <= 5; k++) {
            due("told " + k, x.told(k), new int[] {0, 1, 1, 2, 0, 0}[k]);
        }
        due("told 0", x.told(0), BEYOND);
        due("told 6", x.told(6), BEYOND);
        due("told -1", x.told(-1), BEYOND);
        due("counted, too", x.told(1), 4);
    }
}
