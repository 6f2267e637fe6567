import java.util.ArrayList;
import java.util.HashSet;
import java.util.List;
import java.util.Set;
import java.util.TreeSet;

/** A naive theatre, written apart from the class: sets of numbers, and all rows tried one by one. */
final class Model {
    interface Law {
        int gives(int a, int b, int c);
    }

    static final class Role {
        int kind;
        int mark;
        int lines;
        int applause;
    }

    static final class Actor {
        Set<Integer> knows = new TreeSet<>();
        Set<Integer> played = new TreeSet<>();
        int own = -1;
        int purse;
        boolean ill;
    }

    final List<Role> roles = new ArrayList<>();
    final List<Actor> actors = new ArrayList<>();
    boolean gala;
    int night;
    int z = 1;
    Law claps = (l, m, k) -> l + k;
    Law wage = (l, p, n) -> 1 + l / 10;

    Model copy() {
        Model other = new Model();
        for (Role role : roles) {
            Role copy = new Role();
            copy.kind = role.kind;
            copy.mark = role.mark;
            copy.lines = role.lines;
            copy.applause = role.applause;
            other.roles.add(copy);
        }
        for (Actor actor : actors) {
            Actor copy = new Actor();
            copy.knows.addAll(actor.knows);
            copy.played.addAll(actor.played);
            copy.own = actor.own;
            copy.purse = actor.purse;
            copy.ill = actor.ill;
            other.actors.add(copy);
        }
        other.gala = gala;
        other.night = night;
        other.z = z;
        other.claps = claps;
        other.wage = wage;
        return other;
    }

    boolean empty(int part) {
        int kind = roles.get(part).kind;
        return kind == 3 || kind == 6 && night % 2 == 0;
    }

    boolean doubled(int part) {
        int kind = roles.get(part).kind;
        return kind == 1 || kind == 4;
    }

    boolean may(Actor actor, int part) {
        Role role = roles.get(part);
        if (actor.ill || empty(part)) {
            return false;
        }
        if (role.kind == 6) {
            return actor.own == part;
        }
        if (role.kind == 5) {
            return true;
        }
        if (role.kind == 2) {
            return !actor.played.contains(part);
        }
        if (role.kind == 4 && role.lines > 50) {
            return actor.knows.contains(part);
        }
        if (gala) {
            return actor.own == part;
        }
        return actor.knows.contains(part) && !actor.played.contains(part) && actor.own != part;
    }

    /** All castings, the least first: every row of -1 to the last player is tried. */
    List<int[]> all() {
        List<int[]> found = new ArrayList<>();
        tried(new int[roles.size()], 0, found);
        return found;
    }

    private void tried(int[] row, int part, List<int[]> found) {
        if (part == row.length) {
            found.add(row.clone());
            return;
        }
        for (int player = -1; player < actors.size(); player++) {
            row[part] = player;
            if (good(row, part)) {
                tried(row, part + 1, found);
            }
        }
    }

    /** Whether a number of a row may stand there, by those ahead of it. */
    boolean good(int[] row, int part) {
        if (empty(part)) {
            return row[part] == -1;
        }
        if (row[part] < 0 || row[part] >= actors.size() || !may(actors.get(row[part]), part)) {
            return false;
        }
        for (int before = 0; before < part; before++) {
            if (row[before] == row[part] && !doubled(before) && !doubled(part)) {
                return false;
            }
        }
        return true;
    }

    int judge(int[] row) {
        for (int part = 0; part < roles.size(); part++) {
            if (part >= row.length || !good(row, part)) {
                return part;
            }
        }
        return row.length > roles.size() ? roles.size() : -1;
    }

    void play(int[] row) {
        Model ahead = copy();
        for (int part = 0; part < row.length; part++) {
            if (row[part] < 0) {
                continue;
            }
            Role role = roles.get(part);
            Actor actor = actors.get(row[part]);
            int known = 0;
            for (Actor other : ahead.actors) {
                known += other.knows.contains(part) ? 1 : 0;
            }
            int more = held(claps.gives(role.lines, role.mark, known), 999);
            role.applause = held(role.applause + more, 99999);
            int had = ahead.actors.get(row[part]).played.size();
            actor.purse = held(actor.purse + held(wage.gives(role.lines, had, night), 99), 9999);
            actor.played.add(part);
            for (int beside = part - 1; beside <= part + 1; beside += 2) {
                if (beside >= 0 && beside < roles.size()) {
                    actor.knows.add(beside);
                }
            }
        }
        gala = false;
        night++;
    }

    static int held(int v, int most) {
        return v < 0 ? 0 : v > most ? most : v;
    }

    boolean playFirst() {
        List<int[]> castings = all();
        if (castings.isEmpty()) {
            return false;
        }
        play(castings.get(0));
        return true;
    }

    /** The theatre behind 0, 1, .. nights of a season. */
    List<Model> behind() {
        List<Model> nights = new ArrayList<>();
        nights.add(copy());
        Model next = copy();
        while (nights.size() <= 60 && next.playFirst()) {
            nights.add(next.copy());
        }
        return nights;
    }

    void playLoose() {
        if (!actors.isEmpty()) {
            z = z * 1103515245 + 12345;
            Actor actor = actors.get((z >>> 8) % actors.size());
            actor.ill = !actor.ill;
        }
        if (!playFirst()) {
            night++;
        }
    }

    int purses() {
        return actors.stream().mapToInt(actor -> actor.purse).sum();
    }

    int idle() {
        Set<Integer> used = new HashSet<>();
        for (int[] row : all()) {
            for (int player : row) {
                used.add(player);
            }
        }
        int set = 0;
        for (int player = 0; player < actors.size(); player++) {
            set += used.contains(player) ? 0 : 1 << player;
        }
        return set;
    }

    int blocked() {
        int set = 0;
        for (int part = 0; part < roles.size(); part++) {
            set += empty(part) || who(part) != 0 ? 0 : 1 << part;
        }
        return set;
    }

    int who(int part) {
        int set = 0;
        for (int player = 0; player < actors.size(); player++) {
            set += may(actors.get(player), part) ? 1 << player : 0;
        }
        return set;
    }

    /** The fewest changes of a row without a player; -1: there is no such casting. */
    int changes(int[] told, int player) {
        int least = -1;
        for (int[] row : all()) {
            int many = 0;
            boolean without = true;
            for (int part = 0; part < row.length; part++) {
                many += row[part] == told[part] ? 0 : 1;
                without &= row[part] != player;
            }
            if (without && (least < 0 || many < least)) {
                least = many;
            }
        }
        return least;
    }

    /** The castings with which purses are so behind a night. */
    List<int[]> fits(int[] purses) {
        List<int[]> found = new ArrayList<>();
        for (int[] row : all()) {
            Model next = copy();
            next.play(row);
            boolean so = true;
            for (int player = 0; player < purses.length; player++) {
                so &= next.actors.get(player).purse == purses[player];
            }
            if (so) {
                found.add(row);
            }
        }
        return found;
    }

    static int bits(Set<Integer> set) {
        int bits = 0;
        for (int i : set) {
            bits |= 1 << i;
        }
        return bits;
    }

    static Set<Integer> set(int bits) {
        Set<Integer> set = new TreeSet<>();
        for (int i = 0; i < 31; i++) {
            if ((bits >> i & 1) == 1) {
                set.add(i);
            }
        }
        return set;
    }
}
