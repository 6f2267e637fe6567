import java.util.List;
import java.util.Random;

/** Random theatres, each compared call by call with the naive one. */
public final class ModelTest {
    private static final Due DUE = new Due();
    private static final String[] CLAPS = {"l*m-k", "(l>30)*900+m", "k*k*k|m", "l%7*l%5+999-l"};
    private static final String[] WAGES = {"p*p+n", "l/10+n%2", "!n+l", "(p=0)*9+3"};
    private static final Model.Law[] CLAPS_LAWS = {
        (l, m, k) -> l * m - k, (l, m, k) -> (l > 30 ? 900 : 0) + m,
        (l, m, k) -> k * k * k != 0 || m != 0 ? 1 : 0, (l, m, k) -> l % 7 * l % 5 + 999 - l
    };
    private static final Model.Law[] WAGE_LAWS = {
        (l, p, n) -> p * p + n, (l, p, n) -> l / 10 + n % 2, (l, p, n) -> (n == 0 ? 1 : 0) + l,
        (l, p, n) -> (p == 0 ? 9 : 0) + 3
    };

    private final Random random;
    private final UnderstudyHouse house = new UnderstudyHouse();
    private final int seed;
    private Model model = new Model();
    private Model kept;
    private int calls;

    private ModelTest(int seed) {
        this.seed = seed;
        random = new Random(seed);
    }

    public static void main(String[] args) {
        for (int seed = 1; seed <= 1500; seed++) {
            new ModelTest(seed).run();
        }
        DUE.end();
    }

    private void due(String call, long got, long want) {
        calls++;
        DUE.due("theatre " + seed + ": " + call, got, want);
    }

    private void run() {
        build();
        for (int step = 0; step < 12 && calls < 380; step++) {
            ask();
            act();
        }
    }

    private void build() {
        int parts = random.nextInt(6);
        int players = random.nextInt(7);
        int likelyKind = random.nextInt(8);
        for (int part = 0; part < parts; part++) {
            addPart(likelyKind < 7 && random.nextInt(3) == 0 ? likelyKind : random.nextInt(7));
        }
        for (int player = 0; player < players; player++) {
            addPlayer();
        }
        if (random.nextBoolean()) {
            int law = random.nextInt(CLAPS.length);
            due("text", Due.text(house, 0, CLAPS[law]), 1);
            model.claps = CLAPS_LAWS[law];
        }
        if (random.nextBoolean()) {
            int law = random.nextInt(WAGES.length);
            due("text", Due.text(house, 1, WAGES[law]), 1);
            model.wage = WAGE_LAWS[law];
        }
    }

    private void addPart(int kind) {
        Model.Role role = new Model.Role();
        role.kind = kind;
        role.mark = random.nextInt(10);
        role.lines = random.nextInt(100);
        due("part", house.part(role.kind * 10 + role.mark, role.lines), model.roles.size());
        model.roles.add(role);
    }

    private void addPlayer() {
        Model.Actor actor = new Model.Actor();
        actor.own = random.nextInt(model.roles.size() + 1) - 1;
        if (actor.own >= 0) {
            actor.knows.add(actor.own);
        }
        int player = model.actors.size();
        due("player", house.player(actor.own), player);
        model.actors.add(actor);
        int all = 1 << model.roles.size();
        if (random.nextInt(4) > 0) {
            int knows = random.nextInt(all) | random.nextInt(all);
            due("knows", house.change(player, 0, knows), Model.bits(actor.knows));
            actor.knows = Model.set(knows);
        }
        if (random.nextInt(4) == 0) {
            int played = random.nextInt(all);
            due("played", house.change(player, 1, played), 0);
            actor.played = Model.set(played);
        }
        if (random.nextInt(8) == 0) {
            due("ill", house.change(player, 3, 1), 0);
            actor.ill = true;
        }
    }

    private void act() {
        switch (random.nextInt(8)) {
            case 0: playNights(); break;
            case 1: playLoose(); break;
            case 2: playSheet(); break;
            case 3: becomeAnother(); break;
            case 4: turnGala(); break;
            case 5: changeOwn(); break;
            case 6: keep(); break;
            default: changeLines(); break;
        }
    }

    private void playNights() {
        int n = 1 + random.nextInt(3);
        int done = 0;
        while (done < n && model.playFirst()) {
            done++;
        }
        due("nights", house.nights(n), done);
    }

    private void playLoose() {
        int n = 1 + random.nextInt(4);
        for (int i = 0; i < n; i++) {
            model.playLoose();
        }
        due("loose", house.loose(n), model.purses());
    }

    private void playSheet() {
        List<int[]> all = model.all();
        if (all.isEmpty()) {
            return;
        }
        int[] row = all.get(random.nextInt(all.size()));
        Due.row(house, 3, 8, row);
        due("judge", house.judge(3), -1);
        model.play(row);
        due("cast", house.cast(3), model.night);
    }

    private void becomeAnother() {
        if (!model.roles.isEmpty()) {
            int part = random.nextInt(model.roles.size());
            Model.Role role = model.roles.get(part);
            int km = random.nextInt(70);
            due("become", house.become(part, km), role.kind);
            role.kind = km / 10;
            role.mark = km % 10;
        }
    }

    private void turnGala() {
        due("gala", house.gala(model.gala ? 0 : 1), model.gala ? 1 : 0);
        model.gala = !model.gala;
    }

    private void changeOwn() {
        if (!model.actors.isEmpty()) {
            int player = random.nextInt(model.actors.size());
            Model.Actor actor = model.actors.get(player);
            int own = random.nextInt(model.roles.size() + 1) - 1;
            due("own", house.change(player, 2, own), actor.own);
            actor.own = own;
        }
    }

    private void changeLines() {
        if (!model.roles.isEmpty()) {
            int part = random.nextInt(model.roles.size());
            Model.Role role = model.roles.get(part);
            int lines = random.nextInt(100);
            due("lines", house.lines(part, lines), role.lines);
            role.lines = lines;
        }
    }

    private void keep() {
        if (kept == null || random.nextBoolean()) {
            house.image();
            kept = model.copy();
        } else {
            model = kept.copy();
            due("restore", house.restore(), model.night);
        }
    }

    private void ask() {
        askCastings();
        askSeason();
        switch (random.nextInt(5)) {
            case 0: askParts(); break;
            case 1: askPlayers(); break;
            case 2: askRows(); break;
            case 3: askPurses(); break;
            default: askSpare(); break;
        }
    }

    private void askCastings() {
        List<int[]> all = model.all();
        due("castings", house.castings(), all.size());
        due("idle", house.idle(), model.idle());
        due("blocked", house.blocked(), model.blocked());
        for (int part = 0; part < model.roles.size(); part++) {
            due("first " + part, house.first(part), all.isEmpty() ? Due.NONE : all.get(0)[part]);
        }
    }

    private void askSeason() {
        List<Model> behind = model.behind();
        due("season", house.season(), behind.size() - 1);
        if (!model.actors.isEmpty()) {
            int player = random.nextInt(model.actors.size());
            int n = random.nextInt(random.nextBoolean() ? 4 : 61);
            Model.Actor actor = behind.get(Math.min(n, behind.size() - 1)).actors.get(player);
            due("then knows", house.then(n, player, 0), Model.bits(actor.knows));
            due("then played", house.then(n, player, 1), Model.bits(actor.played));
            due("then purse", house.then(n, player, 2), actor.purse);
            for (int part = 0; part < model.roles.size(); part++) {
                due("learns", house.learns(player, part), learns(behind, player, part));
            }
        }
        int wrong = random.nextInt(25);
        for (int i = 0; i < 20; i++) {
            int purses = behind.get(Math.min(i + 1, behind.size() - 1)).purses();
            house.tell(i == wrong ? purses - 1 : purses);
        }
        due("check", house.check(), wrong < 20 ? wrong + 1 : 0);
    }

    private static int learns(List<Model> behind, int player, int part) {
        for (int n = 0; n < behind.size(); n++) {
            if (behind.get(n).actors.get(player).knows.contains(part)) {
                return n;
            }
        }
        return Due.NONE;
    }

    private void askParts() {
        int applause = 0;
        for (int part = 0; part < model.roles.size(); part++) {
            Model.Role role = model.roles.get(part);
            int knows = 0;
            for (int player = 0; player < model.actors.size(); player++) {
                knows |= model.actors.get(player).knows.contains(part) ? 1 << player : 0;
            }
            int[] due = {role.kind, role.mark, role.lines, role.applause, model.empty(part) ? 1 : 0, model.who(part), knows};
            for (int what = 0; what < due.length; what++) {
                due("ofPart " + part + " " + what, house.ofPart(part, what), due[what]);
            }
            applause += role.applause;
        }
        due("applause", house.count(4), applause);
    }

    private void askPlayers() {
        int ill = 0;
        for (int player = 0; player < model.actors.size(); player++) {
            Model.Actor actor = model.actors.get(player);
            int may = 0;
            for (int part = 0; part < model.roles.size(); part++) {
                may |= model.may(actor, part) ? 1 << part : 0;
            }
            int[] due = {Model.bits(actor.knows), Model.bits(actor.played), actor.own, actor.purse, actor.ill ? 1 : 0, may};
            for (int what = 0; what < due.length; what++) {
                due("ofPlayer " + player + " " + what, house.ofPlayer(player, what), due[what]);
            }
            ill |= actor.ill ? 1 << player : 0;
        }
        due("ill", house.count(6), ill);
        due("night", house.count(2), model.night);
        due("gala", house.count(3), model.gala ? 1 : 0);
        due("z", house.count(10), model.z);
        int asked = random.nextInt(1 << model.actors.size());
        int told = 0;
        for (int player : Model.set(asked)) {
            told |= Model.bits(model.actors.get(player).knows);
        }
        due("tells", house.tells(asked), told);
    }

    private void askRows() {
        int[] row = new int[Math.max(0, model.roles.size() + (random.nextInt(5) == 0 ? random.nextInt(3) - 1 : 0))];
        List<int[]> all = model.all();
        int[] good = all.isEmpty() ? row : all.get(random.nextInt(all.size()));
        for (int i = 0; i < row.length; i++) {
            boolean wild = i >= good.length || random.nextInt(4) == 0;
            row[i] = wild ? random.nextInt(model.actors.size() + 2) - 1 : good[i];
        }
        int bits = 8 << random.nextInt(3);
        Due.row(house, 0, bits, row);
        due("judge", house.judge(0), model.judge(row));
        for (int player = 0; player < model.actors.size(); player++) {
            int least = row.length == model.roles.size() ? model.changes(row, player) : -1;
            due("changes without " + player, house.changes(0, player), least < 0 ? Due.NONE : least);
        }
    }

    private void askPurses() {
        int[] purses = new int[model.actors.size()];
        List<int[]> all = model.all();
        Model next = model.copy();
        if (!all.isEmpty()) {
            next.play(all.get(random.nextInt(all.size())));
        }
        for (int player = 0; player < purses.length; player++) {
            purses[player] = next.actors.get(player).purse + (random.nextInt(30) == 0 ? 1 : 0);
        }
        Due.row(house, 1, 16, purses);
        List<int[]> found = model.fits(purses);
        due("fits", house.fits(1, -1), found.size());
        for (int part = 0; part < model.roles.size(); part++) {
            due("fits " + part, house.fits(1, part), found.isEmpty() ? Due.NONE : found.get(0)[part]);
        }
    }

    private void askSpare() {
        int parts = random.nextInt(1 << model.roles.size());
        if (model.actors.size() >= 6) {
            due("spare", house.spare(parts), Due.FULL);
            return;
        }
        Model more = model.copy();
        Model.Actor actor = new Model.Actor();
        actor.knows = Model.set(parts);
        more.actors.add(actor);
        due("spare", house.spare(parts), more.behind().size() - model.behind().size());
    }
}
