import java.io.IOException;
import java.lang.reflect.Method;
import java.lang.reflect.Modifier;
import java.nio.charset.StandardCharsets;
import java.nio.file.Files;
import java.nio.file.Path;
import java.util.Arrays;
import java.util.List;
import java.util.Random;
import java.util.TreeSet;
import java.util.regex.Pattern;

/** The public face, the rules of the language that a test can see, and calls with any arguments at all. */
public final class FaceTest {
    private static final Due DUE = new Due();
    private static final String[] FACE = {
        "part ii", "ofPart ii", "lines ii", "become ii", "as ii", "player i", "ofPlayer ii", "change iii", "gala i",
        "feed li", "text i", "law iiii", "cast i", "nights i", "loose i", "first i", "castings ", "season ", "then iii",
        "learns ii", "blocked ", "idle ", "changes ii", "tells i", "fits ii", "spare i", "seed i", "voice iii", "trace i",
        "sheet iii", "put iii", "move iiiii", "loads i", "judge i", "image ", "restore ", "tell i", "check ", "count i",
        "told i"
    };
    private static final String[] NOT_IN_SOURCE = {
        "\\bthrow\\b", "\\btry\\b", "\\bcatch\\b", "\\bsynchronized\\b", "\\bassert\\b", "->", "::", "\\bimport\\b",
        "\\bpackage\\b", "@", "\\bprotected\\b", "Exact\\b", "\\bvar\\b"
    };

    public static void main(String[] args) throws IOException {
        face();
        source();
        for (int seed = 1; seed <= 3000; seed++) {
            anyCalls(seed);
        }
        dearCalls();
        DUE.end();
    }

    private static void face() {
        TreeSet<String> due = new TreeSet<>(Arrays.asList(FACE));
        TreeSet<String> found = new TreeSet<>();
        TreeSet<String> names = new TreeSet<>();
        for (Method method : UnderstudyHouse.class.getDeclaredMethods()) {
            if (method.isSynthetic() || Modifier.isPrivate(method.getModifiers())) {
                continue;
            }
            StringBuilder face = new StringBuilder(method.getName()).append(' ');
            for (Class<?> type : method.getParameterTypes()) {
                face.append(type == int.class ? 'i' : type == long.class ? 'l' : '?');
            }
            boolean open = method.getModifiers() == Modifier.PUBLIC && method.getReturnType() == int.class;
            DUE.due("public int " + face, open ? 1 : 0, 1);
            found.add(face.toString());
            names.add(method.getName());
        }
        DUE.due("the face is " + found, found.equals(due) ? 1 : 0, 1);
        DUE.due("final", UnderstudyHouse.class.getModifiers(), Modifier.PUBLIC | Modifier.FINAL);
        DUE.due("constructors", UnderstudyHouse.class.getConstructors().length, 1);
        DUE.due("fields", UnderstudyHouse.class.getFields().length, 0);
        privateNames(UnderstudyHouse.class, names);
        for (Class<?> inside : UnderstudyHouse.class.getDeclaredClasses()) {
            DUE.due("static " + inside, Modifier.isStatic(inside.getModifiers()) ? 1 : 0, 1);
            DUE.due("not public " + inside, Modifier.isPublic(inside.getModifiers()) ? 1 : 0, 0);
            privateNames(inside, names);
        }
    }

    private static void privateNames(Class<?> type, TreeSet<String> names) {
        for (Method method : type.getDeclaredMethods()) {
            boolean hidden = type != UnderstudyHouse.class || Modifier.isPrivate(method.getModifiers());
            DUE.due("a name of the face for " + method, hidden && names.contains(method.getName()) ? 1 : 0, 0);
        }
    }

    private static void source() throws IOException {
        Path file = Path.of("src/main/java/UnderstudyHouse.java");
        List<String> lines = Files.readAllLines(file, StandardCharsets.UTF_8);
        StringBuilder code = new StringBuilder();
        for (String line : lines) {
            String bare = line.trim();
            if (!bare.startsWith("*") && !bare.startsWith("/")) {
                code.append(line).append('\n');
            }
        }
        for (String rule : NOT_IN_SOURCE) {
            DUE.due("source has " + rule, Pattern.compile(rule).matcher(code).find() ? 1 : 0, 0);
        }
        DUE.due("signs above 127", code.chars().filter(sign -> sign > 127).count(), 0);
    }

    private static int any(Random random) {
        switch (random.nextInt(12)) {
            case 0: return random.nextInt();
            case 1: return Integer.MIN_VALUE + random.nextInt(3);
            case 2: return Integer.MAX_VALUE - random.nextInt(3);
            case 3: return -random.nextInt(4);
            case 4: return random.nextInt(128);
            case 5: return 8 << random.nextInt(3);
            case 6: return random.nextInt(64);
            default: return random.nextInt(7);
        }
    }

    /** Random calls: none throws, and told() counts the errors. */
    private static void anyCalls(int seed) {
        Random random = new Random(seed);
        UnderstudyHouse x = new UnderstudyHouse();
        int[] errors = new int[6];
        for (int i = 0; i < 480; i++) {
            String act = FACE[random.nextInt(i < 60 ? 9 : FACE.length)];
            String name = act.substring(0, act.indexOf(' '));
            int answer = call(x, name, random);
            boolean free = name.equals("seed") || name.equals("count") && answer == x.count(10);
            if (!free && answer < -1000000000 && answer >= -1000000005) {
                errors[-1000000000 - answer]++;
            }
        }
        for (int k = 1; k <= 5; k++) {
            DUE.due("calls " + seed + ": told " + k, x.told(k), errors[k]);
        }
    }

    private static int call(UnderstudyHouse x, String name, Random r) {
        switch (name) {
            case "part": return x.part(any(r), any(r));
            case "ofPart": return x.ofPart(any(r), any(r));
            case "lines": return x.lines(any(r), any(r));
            case "become": return x.become(any(r), any(r));
            case "as": return x.as(any(r), any(r));
            case "player": return x.player(any(r));
            case "ofPlayer": return x.ofPlayer(any(r), any(r));
            case "change": return x.change(any(r), any(r), any(r));
            case "gala": return x.gala(any(r));
            case "feed": return x.feed((long) any(r) << 32 | any(r), any(r));
            case "text": return x.text(any(r));
            case "law": return x.law(any(r), any(r), any(r), any(r));
            case "cast": return x.cast(any(r));
            case "nights": return x.nights(any(r));
            case "loose": return x.loose(any(r));
            case "first": return x.first(any(r));
            case "castings": return x.castings();
            case "season": return x.season();
            case "then": return x.then(any(r), any(r), any(r));
            case "learns": return x.learns(any(r), any(r));
            case "blocked": return x.blocked();
            case "idle": return x.idle();
            case "changes": return x.changes(any(r), any(r));
            case "tells": return x.tells(any(r));
            case "fits": return x.fits(any(r), any(r));
            case "spare": return x.spare(any(r));
            default: return callOther(x, name, r);
        }
    }

    private static int callOther(UnderstudyHouse x, String name, Random r) {
        switch (name) {
            case "seed": return x.seed(any(r));
            case "voice": return x.voice(any(r), any(r), any(r));
            case "trace": return x.trace(any(r));
            case "sheet": return x.sheet(any(r), any(r), any(r));
            case "put": return x.put(any(r), any(r), any(r));
            case "move": return x.move(any(r), any(r), any(r), any(r), any(r));
            case "loads": return x.loads(any(r));
            case "judge": return x.judge(any(r));
            case "image": return x.image();
            case "restore": return x.restore();
            case "tell": return x.tell(any(r));
            case "check": return x.check();
            case "count": return x.count(any(r));
            case "told": return x.told(any(r));
            default: throw new IllegalArgumentException(name);
        }
    }

    /** The dearest theatre for 512 calls; it would not end in time if a call tried all rows for each night. */
    private static void dearCalls() {
        UnderstudyHouse x = new UnderstudyHouse();
        for (int part = 0; part < 5; part++) {
            x.part(40, 99);
        }
        for (int player = 0; player < 6; player++) {
            x.player(-1);
            x.change(player, 0, 31);
        }
        Due.row(x, 0, 8, 1, 1, 1, 1, 1, 1);
        for (int i = 0; i < 120; i++) {
            DUE.due("castings", x.castings(), 7776);
            DUE.due("fits", x.fits(0, -1), 0);
            DUE.due("season", x.season(), 60);
        }
    }
}
