/** All that can be asked of a house, as one text; asking uses it up (some 250 calls). */
final class State {
    private static final int NONE = Due.NONE;
    private static final int MOST_NUMBERS = 40;

    private final UnderstudyHouse x;
    private final StringBuilder text = new StringBuilder();

    private State(UnderstudyHouse x) {
        this.x = x;
    }

    /** How many acts have answered each error; asking changes nothing. */
    static int[] told(UnderstudyHouse x) {
        int[] told = new int[6];
        for (int k = 1; k <= 5; k++) {
            told[k] = x.told(k);
        }
        return told;
    }

    static String of(UnderstudyHouse x) {
        State state = new State(x);
        state.theatre();
        state.trace();
        for (int sheet = 0; sheet < 4; sheet++) {
            state.sheet(sheet);
        }
        state.usedUp();
        state.add("restore", x.restore());
        state.theatre();
        state.usedUp();
        state.add("image", x.image());
        return state.text.toString();
    }

    private void add(String what, int answer) {
        text.append(what).append(' ').append(answer).append('\n');
    }

    private void theatre() {
        for (int what = 0; what <= 10; what++) {
            add("count " + what, x.count(what));
        }
        for (int part = 0; part < x.count(0); part++) {
            for (int what = 0; what <= 6; what++) {
                add("part " + part + " " + what, x.ofPart(part, what));
            }
        }
        for (int player = 0; player < x.count(1); player++) {
            for (int what = 0; what <= 5; what++) {
                add("player " + player + " " + what, x.ofPlayer(player, what));
            }
        }
        for (int use = 0; use <= 1; use++) {
            add("law " + use, x.law(use, 17, 3, 5));
            add("law " + use, x.law(use, 40, 7, 2));
        }
        add("season", x.season());
    }

    private void trace() {
        for (int i = 0; i < x.count(9); i++) {
            add("trace " + i, x.trace(i));
        }
    }

    /** Each number is brought to the front, and read as lines of part 0. */
    private void sheet(int sheet) {
        int judged = x.judge(sheet);
        add("sheet " + sheet, judged);
        if (judged == NONE) {
            return;
        }
        int length = 0;
        while (length < MOST_NUMBERS && x.move(sheet, 0, sheet, 0, length + 1) == length + 1) {
            length++;
        }
        add("length", length);
        for (int i = 0; i < length; i++) {
            x.move(sheet, i, sheet, 0, 1);
            add("number " + i, x.loads(sheet));
            add("is", x.ofPart(0, 2));
        }
        x.put(sheet, 0, 256 + 7);
        add("8 bits", x.loads(sheet));
        x.put(sheet, 0, 65536 + 7);
        add("16 bits", x.loads(sheet));
    }

    private void usedUp() {
        add("check", x.check());
        add("text", x.text(0));
        add("law by it", x.law(0, 17, 3, 5));
    }
}
