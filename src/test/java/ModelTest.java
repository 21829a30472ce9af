import java.util.ArrayDeque;
import java.util.ArrayList;
import java.util.Deque;
import java.util.HashSet;
import java.util.List;
import java.util.Random;
import java.util.Set;
import java.util.TreeSet;
import java.util.regex.Matcher;
import java.util.regex.Pattern;

/** Random runs of calls, each answer held against a slow model that follows the document's words. */
public final class ModelTest {
    private static final int RUNS = 400;
    private static final int CALLS = 512;

    private final Random random;
    private final Model model = new Model();
    private final ShaftHunt program = new ShaftHunt();
    private final List<String> log = new ArrayList<>();
    private int calls = 0;
    private boolean wrong = false;

    private ModelTest(long seed) {
        random = new Random(seed);
    }

    public static void main(String[] args) {
        int runs = args.length > 0 ? Integer.parseInt(args[0]) : RUNS;
        int wrongRuns = 0;
        long calls = 0;
        for (int seed = 0; seed < runs && wrongRuns < 3; seed++) {
            ModelTest run = new ModelTest(seed);
            run.play();
            calls += run.calls;
            if (run.wrong) {
                wrongRuns++;
                System.out.println("run " + seed + ":");
                int first = Math.max(0, run.log.size() - 25);
                run.log.subList(first, run.log.size()).forEach(System.out::println);
            }
        }
        System.out.println(calls + " calls, " + wrongRuns + " runs wrong");
        if (wrongRuns != 0) {
            System.exit(1);
        }
    }

    private void due(String call, long got, long want) {
        calls++;
        log.add(call + " = " + got);
        if (got != want) {
            wrong = true;
            log.add("  due is " + want);
        }
    }

    private void play() {
        int boldness = random.nextInt(4);
        grow(random.nextInt(11), random.nextInt(17));
        while (calls < CALLS - 125 && !wrong) {
            int dice = random.nextInt(100);
            if (dice < 25) {
                change();
            } else if (dice < 85) {
                ask();
            } else if (dice < 90 + boldness) {
                writeText();
            } else {
                back();
            }
        }
        if (!wrong) {
            due("digest()", program.digest(), model.digest());
        }
    }

    private void grow(int shafts, int pipes) {
        for (int i = 0; i < shafts && !wrong; i++) {
            shaft(random.nextInt(5), 1 + random.nextInt(15));
        }
        for (int i = 0; i < pipes && !wrong; i++) {
            pipe();
        }
    }

    /** Mostly a number from 0 on below a bound, now and then one just outside or far off. */
    private int near(int bound) {
        int dice = random.nextInt(60);
        if (dice == 0) {
            return -1;
        }
        if (dice == 1) {
            return bound;
        }
        if (dice == 2) {
            return random.nextInt();
        }
        return bound < 1 ? 0 : random.nextInt(bound);
    }

    private int shaftNumber() {
        return near(model.now.shafts.size());
    }

    private void change() {
        switch (random.nextInt(8)) {
            case 0 -> shaft(near(5), near(16));
            case 1 -> sets();
            case 2, 3 -> pipe();
            case 4 -> drops();
            case 5, 6 -> sight();
            default -> {
                if (random.nextInt(3) == 0) {
                    due("forget()", program.forget(), model.forget());
                }
            }
        }
    }

    private void shaft(int kind, int p) {
        due("shaft(" + kind + ", " + p + ")", program.shaft(kind, p), model.shaft(kind, p));
    }

    private void sets() {
        int a = shaftNumber();
        int what = near(2);
        int v = near(what == 0 ? 5 : 16);
        due("sets(" + a + ", " + what + ", " + v + ")", program.sets(a, what, v), model.sets(a, what, v));
    }

    private void pipe() {
        int a = shaftNumber();
        int b = shaftNumber();
        int low = near(10);
        int high = random.nextInt(8) == 0 ? near(10) : Math.min(9, Math.max(low, 0) / 2 * 2 + random.nextInt(4));
        due("pipe(" + a + ", " + b + ", " + low + ", " + high + ")",
                program.pipe(a, b, low, high), model.pipe(a, b, low, high));
    }

    private void drops() {
        int i = near(model.now.pipes.size());
        due("drops(" + i + ")", program.drops(i), model.drops(i));
    }

    /** Half of the sights seen are such as some start explains, for else nobody would fit. */
    private void sight() {
        int sort = near(2);
        int a = shaftNumber();
        int m = near(63);
        if (random.nextBoolean() && model.hasShaft(a)) {
            int from = random.nextInt(model.now.shafts.size());
            List<Integer> minutes = new ArrayList<>(model.come(from, random.nextInt(31), a));
            if (!minutes.isEmpty()) {
                m = minutes.get(random.nextInt(minutes.size()));
                sort = random.nextInt(4) == 0 ? 0 : 1;
            }
        }
        due("sight(" + sort + ", " + a + ", " + m + ")", program.sight(sort, a, m), model.sight(sort, a, m));
    }

    private void back() {
        due("back()", program.back(), model.back());
    }

    private void ask() {
        int a = shaftNumber();
        int b = shaftNumber();
        int m = near(31);
        int what;
        switch (random.nextInt(14)) {
            case 0 -> {
                what = near(6);
                due("of(" + a + ", " + what + ")", program.of(a, what), model.of(a, what));
            }
            case 1 -> {
                what = near(4);
                int i = near(model.now.pipes.size());
                due("about(" + i + ", " + what + ")", program.about(i, what), model.about(i, what));
            }
            case 2, 3 -> due("comes(" + a + ", " + m + ", " + b + ")", program.comes(a, m, b), model.comes(a, m, b));
            case 4 -> {
                what = near(3);
                due("times(" + a + ", " + m + ", " + b + ", " + what + ")",
                        program.times(a, m, b, what), model.times(a, m, b, what));
            }
            case 5 -> {
                m = near(63);
                due("leaves(" + a + ", " + m + ")", program.leaves(a, m), model.leaves(a, m));
            }
            case 6 -> due("fits(" + a + ", " + m + ")", program.fits(a, m), model.fits(a, m));
            case 7 -> due("when(" + a + ")", program.when(a), model.when(a));
            case 8 -> due("suspects()", program.suspects(), model.suspects());
            case 9 -> {
                what = near(2);
                due("next(" + what + ")", program.next(what), model.next(what));
            }
            case 10 -> {
                int set = near(1 << model.now.shafts.size());
                due("alike(" + set + ")", program.alike(set), model.alike(set));
            }
            case 11 -> {
                what = near(2);
                due("sensors(" + what + ")", program.sensors(what), model.sensors(what));
            }
            case 12 -> {
                what = near(8);
                due("told(" + what + ")", program.told(what), model.told(what));
            }
            default -> {
                if (random.nextInt(6) == 0) {
                    due("digest()", program.digest(), model.digest());
                }
            }
        }
    }

    private void writeText() {
        if (random.nextInt(5) != 0) {
            due("clear()", program.clear(), model.clear());
        }
        String text = makeText();
        for (int i = 0; i < text.length() && !wrong; i++) {
            int c = random.nextInt(400) == 0 ? near(128) : text.charAt(i);
            due("type(" + c + ")", program.type(c), model.type(c));
        }
        due("reads() of '" + model.text + "'", program.reads(), model.reads());
    }

    private String makeText() {
        StringBuilder made = new StringBuilder();
        int orders = random.nextInt(7);
        boolean wide = random.nextInt(3) == 0;
        for (int i = 0; i < orders && made.length() < 100; i++) {
            char letter = "sppecx".charAt(random.nextInt(6));
            made.append(gap(wide, 0)).append(letter);
            int[] bounds = bounds(letter);
            for (int n = 0; n < bounds.length; n++) {
                int v = random.nextInt(Math.max(1, bounds[n]));
                made.append(gap(wide, n == 0 ? 0 : 1)).append(v < 10 && random.nextInt(9) == 0 ? "0" : "").append(v);
            }
            made.append(gap(wide, 0)).append(';');
        }
        return spoil(made);
    }

    private int[] bounds(char letter) {
        int shafts = model.now.shafts.size() + (random.nextInt(6) == 0 ? 1 : 0);
        return switch (letter) {
            case 's' -> new int[] {5, 16};
            case 'p' -> new int[] {shafts, shafts, 5, 10};
            case 'x' -> new int[] {model.now.pipes.size()};
            default -> new int[] {shafts, 63};
        };
    }

    private String gap(boolean wide, int least) {
        return " ".repeat(least + (wide ? random.nextInt(3) : 0));
    }

    private String spoil(StringBuilder made) {
        int dice = random.nextInt(6);
        int place = random.nextInt(made.length() + 1);
        char c = " 0123456789;speckx\t".charAt(random.nextInt(19));
        if (dice == 0) {
            made.insert(place, c);
        } else if (dice == 1 && place < made.length()) {
            made.deleteCharAt(place);
        } else if (dice == 2 && place < made.length()) {
            made.setCharAt(place, c);
        }
        return made.toString();
    }

    private static final class State {
        final List<int[]> shafts = new ArrayList<>();
        final List<int[]> pipes = new ArrayList<>();
        final List<int[]> sights = new ArrayList<>();

        State copy() {
            State other = new State();
            shafts.forEach(row -> other.shafts.add(row.clone()));
            pipes.forEach(row -> other.pipes.add(row.clone()));
            sights.forEach(row -> other.sights.add(row.clone()));
            return other;
        }
    }

    private static final class Refusal extends Exception {
        private static final long serialVersionUID = 1L;
        final int why;

        Refusal(int why) {
            this.why = why;
        }
    }

    private interface Call {
        int run() throws Refusal;
    }

    private static final class Model {
        private static final Pattern TEXT = Pattern.compile(
                " *(?:(?:[sec] *N +N|p *N +N +N +N|x *N) *; *)+".replace("N", "[0-9]{1,2}"));

        State now = new State();
        final Deque<State> past = new ArrayDeque<>();
        final int[] refusals = new int[5];
        String text = "";

        // A call told S: leaves a state, if it is not refused.
        private int leavesState(Call call) {
            State before = now.copy();
            try {
                int answer = call.run();
                past.addLast(before);
                if (past.size() > 5) {
                    past.removeFirst();
                }
                return answer;
            } catch (Refusal refusal) {
                now = before;
                return refuse(refusal.why);
            }
        }

        private int refuse(int why) {
            refusals[-why]++;
            return why;
        }

        private static void must(boolean condition, int why) throws Refusal {
            if (!condition) {
                throw new Refusal(why);
            }
        }

        private static boolean in(int v, int least, int most) {
            return least <= v && v <= most;
        }

        boolean hasShaft(int a) {
            return in(a, 0, now.shafts.size() - 1);
        }

        int shaft(int kind, int p) {
            return leavesState(() -> doShaft(kind, p));
        }

        private int doShaft(int kind, int p) throws Refusal {
            must(in(kind, 0, 4) && in(p, 1, 15), -2);
            must(now.shafts.size() < 10, -4);
            now.shafts.add(new int[] {kind, p});
            return now.shafts.size() - 1;
        }

        int sets(int a, int what, int v) {
            return leavesState(() -> {
                must(hasShaft(a) && in(what, 0, 1) && in(v, what, what == 0 ? 4 : 15), -2);
                int was = now.shafts.get(a)[what];
                now.shafts.get(a)[what] = v;
                return was;
            });
        }

        int pipe(int a, int b, int low, int high) {
            return leavesState(() -> doPipe(a, b, low, high));
        }

        private int doPipe(int a, int b, int low, int high) throws Refusal {
            must(hasShaft(a) && hasShaft(b) && a != b && in(low, 0, 9) && in(high, 0, 9) && low <= high, -2);
            must(!reaches(b, a), -3);
            must(now.pipes.size() < 16, -4);
            now.pipes.add(new int[] {a, b, low, high});
            return now.pipes.size() - 1;
        }

        int drops(int i) {
            return leavesState(() -> doDrops(i));
        }

        private int doDrops(int i) throws Refusal {
            must(in(i, 0, now.pipes.size() - 1), -2);
            now.pipes.remove(i);
            return now.pipes.size();
        }

        private boolean reaches(int a, int b) {
            if (a == b) {
                return true;
            }
            for (int[] pipe : now.pipes) {
                if (pipe[0] == a && reaches(pipe[1], b)) {
                    return true;
                }
            }
            return false;
        }

        int of(int a, int what) {
            if (!hasShaft(a) || !in(what, 0, 5)) {
                return refuse(-2);
            }
            if (what < 2) {
                return now.shafts.get(a)[what];
            }
            if (what < 4) {
                return (int) now.pipes.stream().filter(pipe -> pipe[what - 2] == a).count();
            }
            int set = 0;
            for (int b = 0; b < now.shafts.size(); b++) {
                if (what == 4 ? reaches(a, b) : reaches(b, a)) {
                    set += 1 << b;
                }
            }
            return set;
        }

        int about(int i, int what) {
            if (!in(i, 0, now.pipes.size() - 1) || !in(what, 0, 3)) {
                return refuse(-2);
            }
            return now.pipes.get(i)[what];
        }

        private int leavingMinute(int a, int m) {
            int kind = now.shafts.get(a)[0];
            int p = now.shafts.get(a)[1];
            int t = m;
            switch (kind) {
                case 1, 4 -> {
                    while (t % p != 0) {
                        t++;
                    }
                    t += kind == 4 ? p / 10 + 1 : 0;
                }
                case 2 -> t = m + p;
                case 3 -> t = m >= p ? m : 99;
                default -> { }
            }
            return t > 62 ? -1 : t;
        }

        TreeSet<Integer> come(int a, int m, int b) {
            Set<Integer> been = new HashSet<>();
            spread(a, m, been);
            TreeSet<Integer> minutes = new TreeSet<>();
            for (int t = 0; t <= 62; t++) {
                if (been.contains(100 * b + t)) {
                    minutes.add(t);
                }
            }
            return minutes;
        }

        private void spread(int a, int m, Set<Integer> been) {
            if (m > 62 || !been.add(100 * a + m)) {
                return;
            }
            int left = leavingMinute(a, m);
            if (left < 0) {
                return;
            }
            for (int[] pipe : now.pipes) {
                if (pipe[0] == a) {
                    for (int d = pipe[2]; d <= pipe[3]; d++) {
                        spread(pipe[1], left + d, been);
                    }
                }
            }
        }

        long comes(int a, int m, int b) {
            if (!hasShaft(a) || !hasShaft(b) || !in(m, 0, 30)) {
                return refuse(-2);
            }
            long set = 0;
            for (int t : come(a, m, b)) {
                set |= 1L << t;
            }
            return set;
        }

        int times(int a, int m, int b, int what) {
            if (!hasShaft(a) || !hasShaft(b) || !in(m, 0, 30) || !in(what, 0, 2)) {
                return refuse(-2);
            }
            TreeSet<Integer> minutes = come(a, m, b);
            if (what == 2) {
                return minutes.size();
            }
            if (minutes.isEmpty()) {
                return -1;
            }
            return what == 0 ? minutes.first() : minutes.last();
        }

        int leaves(int a, int m) {
            return hasShaft(a) && in(m, 0, 62) ? leavingMinute(a, m) : refuse(-2);
        }

        int sight(int sort, int a, int m) {
            return leavesState(() -> doSight(sort, a, m));
        }

        private int doSight(int sort, int a, int m) throws Refusal {
            must(in(sort, 0, 1) && hasShaft(a) && in(m, 0, 62), -2);
            must(now.sights.size() < 12, -4);
            now.sights.add(new int[] {sort, a, m});
            return now.sights.size();
        }

        int forget() {
            return leavesState(() -> {
                int had = now.sights.size();
                now.sights.clear();
                return had;
            });
        }

        private boolean fitting(int a, int m) {
            Set<Integer> been = new HashSet<>();
            spread(a, m, been);
            for (int[] sight : now.sights) {
                boolean any = false;
                boolean later = false;
                for (int t = 0; t <= 62; t++) {
                    boolean come = been.contains(100 * sight[1] + t);
                    any |= come;
                    later |= come && t > sight[2];
                }
                boolean well = sight[0] == 1 ? been.contains(100 * sight[1] + sight[2]) : !any || later;
                if (!well) {
                    return false;
                }
            }
            return true;
        }

        int fits(int a, int m) {
            if (!hasShaft(a) || !in(m, 0, 30)) {
                return refuse(-2);
            }
            return fitting(a, m) ? 1 : 0;
        }

        int when(int a) {
            if (!hasShaft(a)) {
                return refuse(-2);
            }
            int set = 0;
            for (int m = 0; m <= 30; m++) {
                set += fitting(a, m) ? 1 << m : 0;
            }
            return set;
        }

        int suspects() {
            int set = 0;
            for (int a = 0; a < now.shafts.size(); a++) {
                set += when(a) != 0 ? 1 << a : 0;
            }
            return set;
        }

        int next(int what) {
            if (!in(what, 0, 1)) {
                return refuse(-2);
            }
            int suspects = suspects();
            for (int part = 0; part <= 10; part++) {
                for (int w = 0; w < now.shafts.size(); w++) {
                    int with = 0;
                    int without = 0;
                    for (int a = 0; a < now.shafts.size(); a++) {
                        if ((suspects & 1 << a) != 0) {
                            with += reaches(a, w) ? 1 : 0;
                            without += reaches(a, w) ? 0 : 1;
                        }
                    }
                    if (Math.max(with, without) == part) {
                        return what == 0 ? w : part;
                    }
                }
            }
            return -1;
        }

        int alike(int set) {
            if (!in(set, 0, (1 << now.shafts.size()) - 1)) {
                return refuse(-2);
            }
            int[] below = new int[now.shafts.size()];
            for (int a = 0; a < below.length; a++) {
                below[a] = of(a, 4);
            }
            return untold(below, set);
        }

        private static int untold(int[] below, int set) {
            int count = 0;
            for (int b = 1; b < below.length; b++) {
                for (int a = 0; a < b; a++) {
                    count += (below[a] & set) == (below[b] & set) ? 1 : 0;
                }
            }
            return count;
        }

        int sensors(int what) {
            if (!in(what, 0, 1)) {
                return refuse(-2);
            }
            int[] below = new int[now.shafts.size()];
            for (int a = 0; a < below.length; a++) {
                below[a] = of(a, 4);
            }
            for (int size = 0; size <= below.length; size++) {
                for (int set = 0; set < 1 << below.length; set++) {
                    if (Integer.bitCount(set) == size && untold(below, set) == 0) {
                        return what == 0 ? set : size;
                    }
                }
            }
            return -1;
        }

        int type(int c) {
            if (!in(c, 0, 127)) {
                return refuse(-2);
            }
            if (text.length() >= 120) {
                return refuse(-4);
            }
            text += (char) c;
            return text.length();
        }

        int clear() {
            int had = text.length();
            text = "";
            return had;
        }

        private static boolean mayGoOn(String start) {
            Matcher matcher = TEXT.matcher(start);
            return matcher.matches() || matcher.hitEnd();
        }

        int reads() {
            for (int place = 0; place < text.length(); place++) {
                if (!mayGoOn(text.substring(0, place + 1))) {
                    return -10 - place;
                }
            }
            if (!TEXT.matcher(text).matches()) {
                return -10 - text.length();
            }
            State before = now.copy();
            int done = 0;
            try {
                for (String order : text.strip().split(";")) {
                    obey(order.strip());
                    done++;
                }
            } catch (Refusal refusal) {
                now = before;
                return -1000 - done;
            }
            past.addLast(before);
            if (past.size() > 5) {
                past.removeFirst();
            }
            return done;
        }

        private void obey(String order) throws Refusal {
            String[] words = order.substring(1).strip().split(" +");
            int[] n = new int[4];
            for (int i = 0; i < words.length; i++) {
                n[i] = Integer.parseInt(words[i]);
            }
            switch (order.charAt(0)) {
                case 's' -> doShaft(n[0], n[1]);
                case 'p' -> doPipe(n[0], n[1], n[2], n[3]);
                case 'e' -> doSight(1, n[0], n[1]);
                case 'c' -> doSight(0, n[0], n[1]);
                default -> doDrops(n[0]);
            }
        }

        int back() {
            if (past.isEmpty()) {
                return refuse(-3);
            }
            now = past.removeLast();
            return past.size();
        }

        int told(int what) {
            return switch (what) {
                case 0, 1, 2 -> refusals[what + 2];
                case 3 -> text.length();
                case 4 -> now.shafts.size();
                case 5 -> now.pipes.size();
                case 6 -> now.sights.size();
                case 7 -> past.size();
                default -> refuse(-2);
            };
        }

        long digest() {
            List<Long> values = new ArrayList<>();
            for (int what = 0; what < 8; what++) {
                values.add((long) told(what));
            }
            for (int a = 0; a < now.shafts.size(); a++) {
                for (int what = 0; what < 6; what++) {
                    values.add((long) of(a, what));
                }
                values.add((long) when(a));
            }
            for (int[] pipe : now.pipes) {
                for (int v : pipe) {
                    values.add((long) v);
                }
            }
            for (int b = 0; b < now.shafts.size(); b++) {
                for (int a = 0; a < now.shafts.size(); a++) {
                    values.add(comes(a, 5, b));
                }
            }
            values.add((long) next(0));
            values.add((long) next(1));
            values.add((long) sensors(0));
            long h = 2557;
            for (long v : values) {
                h = 31 * h + v;
            }
            return h;
        }
    }
}
