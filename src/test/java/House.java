import java.util.function.Consumer;

/** Houses that tests start from. */
final class House {
    private House() {
    }

    /** Parts of these kinds (10 times the kind, and m), 30 lines each. */
    static UnderstudyHouse of(int... kms) {
        return parts(new UnderstudyHouse(), kms);
    }

    /** A house after so many nights of nobody. */
    static UnderstudyHouse old(int night) {
        UnderstudyHouse x = new UnderstudyHouse();
        for (int left = night; left > 0; left -= 60) {
            x.nights(Math.min(left, 60));
        }
        return x;
    }

    static UnderstudyHouse parts(UnderstudyHouse x, int... kms) {
        for (int km : kms) {
            x.part(km, 30);
        }
        return x;
    }

    /** Players engaged as no part, with what they know. */
    static void players(UnderstudyHouse x, int... knows) {
        for (int set : knows) {
            int player = x.player(-1);
            x.change(player, 0, set);
        }
    }

    static UnderstudyHouse after(UnderstudyHouse x, Consumer<UnderstudyHouse> calls) {
        calls.accept(x);
        return x;
    }

    /**
     * Something of everything: four parts, four players (one ill), a gala at night 1 with one casting (told by sheet
     * 0), both texts, an image of night 0, a tape, numbers that wait, a trace; sheet 1 has as many numbers as there
     * are players, 2 is missing, 3 is too short for anything.
     */
    static UnderstudyHouse rich() {
        return fill(new UnderstudyHouse());
    }

    static UnderstudyHouse fill(UnderstudyHouse x) {
        x.part(4, 30);
        x.part(13, 60);
        x.part(25, 10);
        x.part(52, 5);
        x.player(0);
        x.player(-1);
        x.player(1);
        x.player(-1);
        x.change(0, 0, 15);
        x.change(1, 0, 3);
        x.change(2, 0, 15);
        x.change(1, 1, 4);
        x.change(3, 3, 1);
        Due.text(x, 0, "l+m");
        Due.text(x, 1, "p+1");
        x.tell(7);
        Due.feed(x, "m");
        x.image();
        x.nights(1);
        x.gala(1);
        x.seed(99);
        x.check();
        x.tell(15);
        x.tell(0);
        x.voice(1, 3, 7);
        x.text(0);
        Due.text(x, 1, "p+2");
        Due.feed(x, "l*3");
        Due.row(x, 0, 8, 0, 2, 2, 1);
        Due.row(x, 1, 16, 5, 5, 5, 0);
        Due.row(x, 3, 32, 1, 2);
        return x;
    }
}
