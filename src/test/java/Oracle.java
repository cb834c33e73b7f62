import java.util.ArrayList;
import java.util.HashSet;
import java.util.List;
import java.util.NoSuchElementException;
import java.util.Set;
import java.util.TreeMap;

/**
 * The document said again in another way, slow and plain: lists, maps and trees, a new world for each
 * question. Its methods are the face's, so that a test can put the same call to both.
 */
public final class Oracle {
    static final int NONE = -1;

    /** A rule as a tree. */
    interface Tree {
        int value(java.util.Map<String, Integer> values);
    }

    record Course(int weight, int mortar) { }

    record SeenLean(int days, int lean) { }

    static final class Fault extends Exception {
        private static final long serialVersionUID = 1L;
        final int kind;
        final int place;

        Fault(int kind, int place) {
            this.kind = kind;
            this.place = place;
        }
    }

    static final class World {
        int ground = 9;
        int cost = 10;
        List<Integer> wind = new ArrayList<>();
        Tree leans;
        Tree gives;
        Tree believes;
        List<Course> hung = new ArrayList<>();
        List<Course> plan = new ArrayList<>();
        List<Integer> faith = new ArrayList<>();
        Set<Set<Integer>> streets = new HashSet<>();
        int day;
        int money;
        int lean;
        int fell;
        /** What each ward gave, and how many fell, since this world was copied. */
        List<Integer> given = new ArrayList<>();
        List<Integer> givenToday = new ArrayList<>();
        int fallen;

        World copy() {
            World w = new World();
            w.ground = ground;
            w.cost = cost;
            w.wind = wind;
            w.leans = leans;
            w.gives = gives;
            w.believes = believes;
            w.hung = new ArrayList<>(hung);
            w.plan = new ArrayList<>(plan);
            w.faith = new ArrayList<>(faith);
            w.streets = new HashSet<>(streets);
            w.day = day;
            w.money = money;
            w.lean = lean;
            w.fell = fell;
            for (int i = 0; i < faith.size(); i++) {
                w.given.add(0);
                w.givenToday.add(0);
            }
            return w;
        }

        int weight() {
            return hung.stream().mapToInt(Course::weight).sum();
        }

        int mortar() {
            return hung.stream().mapToInt(Course::mortar).sum();
        }

        int faithSum() {
            return faith.stream().mapToInt(Integer::intValue).sum();
        }

        int strength() {
            return faithSum() / 10 + mortar();
        }

        boolean done() {
            return hung.size() >= ground;
        }

        boolean tooHeavy() {
            return weight() + lean / 5 > strength();
        }

        boolean street(int a, int b) {
            return a != b && streets.contains(Set.of(a, b));
        }

        int doubt(int ward) {
            int n = 0;
            for (int o = 0; o < faith.size(); o++) {
                if (street(ward, o) && faith.get(o) < 10) {
                    n++;
                }
            }
            return n;
        }

        java.util.Map<String, Integer> common() {
            java.util.Map<String, Integer> m = new TreeMap<>();
            m.put("lean", lean);
            m.put("height", hung.size());
            m.put("day", day);
            return m;
        }

        java.util.Map<String, Integer> ofWard(int ward) {
            java.util.Map<String, Integer> m = common();
            m.put("faith", faith.get(ward));
            m.put("doubt", doubt(ward));
            m.put("fell", fell);
            return m;
        }

        int gift(int ward) {
            return gives == null ? faith.get(ward) / 20 : clamp(gives.value(ofWard(ward)), 0, 20);
        }

        int windNow() {
            return wind.isEmpty() ? 2 : wind.get(day % wind.size());
        }

        void day() {
            day(windNow());
        }

        void day(int blows) {
            int more;
            if (leans == null) {
                more = blows - mortar() / 4;
            } else {
                java.util.Map<String, Integer> m = common();
                m.put("wind", blows);
                m.put("weight", weight());
                m.put("mortar", mortar());
                more = leans.value(m);
            }
            lean = clamp(lean + clamp(more, -9, 9), 0, 99);
            for (int w = 0; w < faith.size(); w++) {
                int g = gift(w);
                givenToday.set(w, g);
                given.set(w, given.get(w) + g);
                money = Math.min(999, money + g);
            }
            if (money >= cost && !plan.isEmpty()) {
                hung.add(plan.remove(0));
                money -= cost;
            }
            fell = 0;
            while (!done() && !hung.isEmpty() && tooHeavy()) {
                hung.remove(hung.size() - 1);
                fell++;
            }
            fallen += fell;
            List<Integer> believed = new ArrayList<>();
            for (int w = 0; w < faith.size(); w++) {
                int b = believes == null ? 1 - doubt(w) - 3 * fell : believes.value(ofWard(w));
                believed.add(clamp(faith.get(w) + clamp(b, -9, 9), 0, 99));
            }
            faith = believed;
            day++;
        }

        World after(int days) {
            World w = copy();
            for (int i = 0; i < days; i++) {
                w.day();
            }
            return w;
        }

        int doubters() {
            int bits = 0;
            for (int w = 0; w < faith.size(); w++) {
                if (faith.get(w) < 10) {
                    bits |= 1 << w;
                }
            }
            return bits;
        }

        int beside(int ward) {
            int bits = 0;
            for (int o = 0; o < faith.size(); o++) {
                if (street(ward, o)) {
                    bits |= 1 << o;
                }
            }
            return bits;
        }

        /** Floyd's way, over the wards that are not told. */
        int[][] ways(int without) {
            int n = faith.size();
            int[][] d = new int[n][n];
            for (int i = 0; i < n; i++) {
                for (int j = 0; j < n; j++) {
                    boolean out = (without >> i & 1) == 1 || (without >> j & 1) == 1;
                    d[i][j] = i == j ? 0 : street(i, j) && !out ? 1 : 1000;
                }
            }
            for (int k = 0; k < n; k++) {
                for (int i = 0; i < n; i++) {
                    for (int j = 0; j < n; j++) {
                        d[i][j] = Math.min(d[i][j], d[i][k] + d[k][j]);
                    }
                }
            }
            return d;
        }
    }

    static int clamp(int x, int lo, int hi) {
        return Math.max(lo, Math.min(hi, x));
    }

    World world = new World().copy();
    List<World> acts = new ArrayList<>();
    List<SeenLean> seen = new ArrayList<>();
    World imageWorld;
    List<World> imageActs;
    List<SeenLean> imageSeen;
    List<Integer> tape = new ArrayList<>();
    int faultPlace = NONE;
    int[] status = new int[3];

    private int refuse(int kind) {
        status[kind]++;
        return NONE;
    }

    private void act() {
        acts.add(world.copy());
        if (acts.size() > 40) {
            acts.remove(0);
        }
    }

    private void wardMustBe(int w) {
        if (w < 0 || w >= world.faith.size()) {
            throw new NoSuchElementException();
        }
    }

    private static void whatMustBe(int what, int most) {
        if (what < 0 || what > most) {
            throw new NoSuchElementException();
        }
    }

    private static void must(boolean holds) {
        if (!holds) {
            throw new IllegalArgumentException();
        }
    }

    public int feed(int a, int b, int c, int d, int e) {
        if (tape.size() > 680) {
            return NONE;
        }
        for (int x : new int[] {a, b, c, d, e}) {
            for (byte y : java.nio.ByteBuffer.allocate(4).putInt(x).array()) {
                tape.add(y & 255);
            }
        }
        return tape.size();
    }

    public int town(int n) {
        must(n >= 0 && n <= tape.size());
        List<Integer> text = new ArrayList<>(tape.subList(0, n));
        tape.clear();
        try {
            world = new OracleText(text).town().copy();
        } catch (Fault f) {
            faultPlace = f.place;
            status[0]++;
            return f.kind;
        }
        faultPlace = NONE;
        acts.clear();
        seen.clear();
        imageWorld = null;
        return 0;
    }

    public int fault() {
        return faultPlace;
    }

    public int count(int what) {
        whatMustBe(what, 21);
        int n = world.faith.size();
        switch (what) {
            case 0: return world.hung.size();
            case 1: return world.plan.size();
            case 2: return n;
            case 3: return world.day;
            case 4: return world.money;
            case 5: return world.lean;
            case 6: return world.weight();
            case 7: return world.strength();
            case 8: return world.strength() - world.weight() - world.lean / 5;
            case 9: {
                int best = 0;
                for (int k = 1; k <= world.plan.size(); k++) {
                    World w = world.copy();
                    w.hung.addAll(w.plan.subList(0, k));
                    if (!w.tooHeavy()) {
                        best = k;
                    }
                }
                return best;
            }
            case 10: return world.done() ? 1 : 0;
            case 11: return world.fell;
            case 12: {
                int[][] d = world.ways(0);
                int parts = 0;
                for (int i = 0; i < n; i++) {
                    boolean first = true;
                    for (int j = 0; j < i; j++) {
                        first &= d[i][j] >= 1000;
                    }
                    parts += first ? 1 : 0;
                }
                return parts;
            }
            case 13:
            case 14: {
                int best = 0;
                int least = n == 0 ? 0 : 99999;
                for (int set = 0; set < 1 << n; set++) {
                    if ((set & 1) == 1) {
                        int in = 0;
                        for (int w = 0; w < n; w++) {
                            in += (set >> w & 1) * world.faith.get(w);
                        }
                        int d = Math.abs(world.faithSum() - 2 * in);
                        if (d < least) {
                            least = d;
                            best = set;
                        }
                    }
                }
                return what == 13 ? least : best;
            }
            case 15: return world.doubters();
            case 16: return acts.size();
            case 17: return seen.size();
            case 18: return tape.size();
            default: return status[what - 19];
        }
    }

    public int course(int course, int what) {
        List<Course> both = new ArrayList<>(world.hung);
        both.addAll(world.plan);
        if (course < 0 || course >= both.size()) {
            throw new NoSuchElementException();
        }
        whatMustBe(what, 2);
        int hangs = course < world.hung.size() ? 1 : 0;
        return what == 0 ? both.get(course).weight() : what == 1 ? both.get(course).mortar() : hangs;
    }

    public int ward(int ward, int what) {
        wardMustBe(ward);
        whatMustBe(what, 3);
        int[] all = {world.faith.get(ward), world.beside(ward), world.doubt(ward), world.gift(ward)};
        return all[what];
    }

    public int days(int many) {
        if (many < 1 || many > 20 || world.day + many > 9999) {
            return refuse(1);
        }
        act();
        world = world.after(many);
        return world.day;
    }

    public int give(int gift) {
        if (gift < 1 || gift > 99) {
            return refuse(1);
        }
        act();
        world.money = Math.min(999, world.money + gift);
        return world.money;
    }

    public int preach(int ward) {
        wardMustBe(ward);
        if (world.faith.get(ward) == 99) {
            return refuse(1);
        }
        act();
        world.faith.set(ward, Math.min(99, world.faith.get(ward) + 10));
        return world.faith.get(ward);
    }

    public int mortar(int course) {
        if (course < 0 || course >= world.hung.size()) {
            throw new NoSuchElementException();
        }
        Course c = world.hung.get(course);
        if (c.mortar() == 9) {
            return refuse(1);
        }
        act();
        world.hung.set(course, new Course(c.weight(), c.mortar() + 1));
        return c.mortar() + 1;
    }

    public int prop() {
        if (world.lean == 0) {
            return refuse(1);
        }
        act();
        int was = world.lean;
        world.lean = 0;
        return was;
    }

    public boolean street(int ward, int other, boolean is) {
        wardMustBe(ward);
        wardMustBe(other);
        if (ward == other || world.street(ward, other) == is) {
            refuse(1);
            return false;
        }
        act();
        if (is) {
            world.streets.add(Set.of(ward, other));
        } else {
            world.streets.remove(Set.of(ward, other));
        }
        return true;
    }

    public int undo() {
        if (acts.isEmpty()) {
            return NONE;
        }
        world = acts.remove(acts.size() - 1);
        return acts.size();
    }

    public int then(int days, int what) {
        whatMustBe(what, 6);
        must(days >= 0 && days <= 60);
        World w = world.after(days);
        int last = w.hung.isEmpty() ? NONE : w.hung.get(w.hung.size() - 1).weight();
        return new int[] {w.hung.size(), w.weight(), w.lean, w.money, w.plan.size(), w.fallen, last}[what];
    }

    public int wardThen(int ward, int days, int what) {
        wardMustBe(ward);
        whatMustBe(what, 1);
        must(days >= 0 && days <= 60);
        World w = world.after(days);
        return what == 0 ? w.faith.get(ward) : w.given.get(ward);
    }

    public int reaches(int courses) {
        must(courses >= 0 && courses <= 16);
        for (int d = 0; d <= 60; d++) {
            if (world.after(d).hung.size() >= courses) {
                return d;
            }
        }
        return NONE;
    }

    public int falls() {
        for (int d = 1; d <= 60; d++) {
            if (world.after(d).fallen > 0) {
                return d;
            }
        }
        return NONE;
    }

    public int later(int days, int what) {
        whatMustBe(what, 1);
        must(days >= 0 && days <= 60);
        World w = world.after(days);
        if (what == 0) {
            return w.doubters();
        }
        return w.faith.isEmpty() ? NONE : w.faith.indexOf(java.util.Collections.max(w.faith));
    }

    public int through(int days, int what) {
        whatMustBe(what, 3);
        must(days >= 1 && days <= 60);
        int worst = 0;
        int stands = 0;
        int richest = 0;
        int most = -1;
        int calm = 0;
        for (int d = 1; d <= days; d++) {
            World w = world.after(d);
            worst = Math.max(worst, w.lean);
            stands += w.done() ? 1 : 0;
            calm += w.fell == 0 ? 1 : 0;
            int given = w.givenToday.stream().mapToInt(Integer::intValue).sum();
            if (given > most) {
                most = given;
                richest = d;
            }
        }
        return new int[] {worst, stands, richest, calm}[what];
    }

    public int pious(int ward, int days) {
        wardMustBe(ward);
        must(days >= 1 && days <= 60);
        int n = 0;
        for (int d = 1; d <= days; d++) {
            n += world.after(d).faith.get(ward) >= 50 ? 1 : 0;
        }
        return n;
    }

    public int far(int ward, int other) {
        wardMustBe(ward);
        wardMustBe(other);
        int d = world.ways(0)[ward][other];
        return d >= 1000 ? NONE : d;
    }

    public int apart(int ward, int other) {
        wardMustBe(ward);
        wardMustBe(other);
        int best = NONE;
        for (int set = 0; set < 1 << world.faith.size(); set++) {
            boolean may = (set >> ward & 1) == 0 && (set >> other & 1) == 0;
            if (may && world.ways(set)[ward][other] >= 1000
                    && (best == NONE || Integer.bitCount(set) < Integer.bitCount(best))) {
                best = set;
            }
        }
        return best;
    }

    public int toPreach(int days) {
        must(days >= 1 && days <= 60);
        int best = NONE;
        for (int set = 0; set < 1 << world.faith.size(); set++) {
            if (best != NONE && Integer.bitCount(set) >= Integer.bitCount(best)) {
                continue;
            }
            World w = world.copy();
            for (int i = 0; i < w.faith.size(); i++) {
                if ((set >> i & 1) == 1) {
                    w.faith.set(i, Math.min(99, w.faith.get(i) + 10));
                }
            }
            if (w.after(days).fallen == 0) {
                best = set;
            }
        }
        return best;
    }

    public int row(int days, int what) {
        whatMustBe(what, 1);
        must(days >= 1 && days <= 60);
        int k = Math.min(4, world.plan.size());
        int most = NONE;
        int best = NONE;
        int rows = (int) Math.pow(10, k);
        for (int number = 0; number < rows; number++) {
            List<Integer> places = new ArrayList<>();
            for (int i = k - 1, rest = number; i >= 0; i--, rest /= 10) {
                places.add(0, rest % 10);
            }
            if (new HashSet<>(places).size() != k || places.stream().anyMatch(p -> p >= k)) {
                continue;
            }
            World w = world.copy();
            for (int i = 0; i < k; i++) {
                w.plan.set(i, world.plan.get(places.get(i)));
            }
            int hang = w.after(days).hung.size();
            if (hang > most) {
                most = hang;
                best = number;
            }
        }
        return what == 0 ? most : k == 0 ? NONE : best;
    }

    public int toMortar(int days) {
        must(days >= 1 && days <= 60);
        int most = world.after(days).hung.size();
        int best = NONE;
        for (int c = 0; c < world.hung.size(); c++) {
            Course was = world.hung.get(c);
            if (was.mortar() < 9) {
                World w = world.copy();
                w.hung.set(c, new Course(was.weight(), was.mortar() + 1));
                int hang = w.after(days).hung.size();
                if (hang > most) {
                    most = hang;
                    best = c;
                }
            }
        }
        return best;
    }

    public int see(int days, int lean) {
        if (seen.size() == 8 || days < 0 || days > 20 || lean < 0 || lean > 99) {
            return refuse(2);
        }
        seen.add(new SeenLean(days, lean));
        return seen.size();
    }

    public void forget() {
        seen.clear();
    }

    private boolean asSeen(World w) {
        return seen.stream().allMatch(s -> w.after(s.days()).lean == s.lean());
    }

    private World ifHeavy(int course, int weight) {
        World w = world.copy();
        w.hung.set(course, new Course(weight, w.hung.get(course).mortar()));
        return w;
    }

    private List<Integer> heavyOnes() {
        List<Integer> all = new ArrayList<>();
        for (int c = 0; c < world.hung.size(); c++) {
            for (int g = 1; g <= 9; g++) {
                if (g != world.hung.get(c).weight() && asSeen(ifHeavy(c, g))) {
                    all.add(10 * c + g);
                }
            }
        }
        return all;
    }

    public int heavy(int what) {
        whatMustBe(what, 2);
        if (what == 2) {
            return asSeen(world) ? 1 : 0;
        }
        List<Integer> all = heavyOnes();
        return what == 0 ? all.size() : all.isEmpty() ? NONE : all.get(0);
    }

    public int look(int what) {
        whatMustBe(what, 1);
        List<Integer> all = heavyOnes();
        int most = 0;
        int best = NONE;
        for (int d = 1; d <= 5; d++) {
            Set<Integer> leans = new HashSet<>();
            for (int h : all) {
                leans.add(ifHeavy(h / 10, h % 10).after(d).lean);
            }
            if (leans.size() > most) {
                most = leans.size();
                best = d;
            }
        }
        return what == 0 ? best : most;
    }

    public int gales(int days, int tenths) {
        must(days >= 1 && days <= 5 && tenths >= 0 && tenths <= 10);
        return likely(world.copy(), days, tenths);
    }

    private static int likely(World w, int days, int tenths) {
        if (w.fallen > 0) {
            return 0;
        }
        if (days == 0) {
            return 1;
        }
        World gale = w.copy();
        gale.day(9);
        World calm = w.copy();
        calm.day(0);
        return tenths * likely(gale, days - 1, tenths) + (10 - tenths) * likely(calm, days - 1, tenths);
    }

    private int gain(int mine, int other, int my, int its) {
        World w = world.copy();
        w.money = Math.min(999, w.money + 5 * my);
        w.money = Math.min(999, w.money + 5 * its);
        w.faith.set(mine, Math.max(0, w.faith.get(mine) - 5 * my));
        w.faith.set(other, Math.max(0, w.faith.get(other) - 5 * its));
        World end = w.after(6);
        return end.faith.get(mine) + 2 * end.hung.size() - 4 * my;
    }

    public int game(int ward, int other, int what) {
        wardMustBe(ward);
        wardMustBe(other);
        whatMustBe(what, 1);
        must(ward != other);
        List<Integer> rest = new ArrayList<>();
        for (int a = 0; a < 2; a++) {
            for (int b = 0; b < 2; b++) {
                if (gain(ward, other, a, b) >= gain(ward, other, 1 - a, b)
                        && gain(other, ward, b, a) >= gain(other, ward, 1 - b, a)) {
                    rest.add(10 * a + b);
                }
            }
        }
        return what == 0 ? rest.size() : rest.isEmpty() ? NONE : rest.get(0);
    }

    private int luck;

    private int draw(int n) {
        luck = luck * 1103515245 + 12345;
        return ((luck >> 16) & 32767) % n;
    }

    public int years(int seed, int n, int what) {
        whatMustBe(what, 2);
        must(n >= 0 && n <= 60);
        luck = seed;
        World w = world.copy();
        for (int i = 0; i < n; i++) {
            int kind = draw(6);
            if (kind == 0 && !w.faith.isEmpty()) {
                int which = draw(w.faith.size());
                w.faith.set(which, draw(100));
            }
            if (kind == 1) {
                w.money = draw(50);
            }
            if (kind == 2 && !w.hung.isEmpty()) {
                int which = draw(w.hung.size());
                w.hung.set(which, new Course(w.hung.get(which).weight(), 0));
            }
            w.day();
        }
        return what == 0 ? w.hung.size() : what == 1 ? w.fallen : w.faithSum();
    }

    public int share(int ward, int days) {
        wardMustBe(ward);
        must(days >= 0 && days <= 60);
        World w = world.after(days);
        int all = w.given.stream().mapToInt(Integer::intValue).sum();
        return all == 0 ? 0 : 100 * w.given.get(ward) / all;
    }

    public int heaviest(int days) {
        must(days >= 0 && days <= 60);
        List<Integer> weights = world.after(days).hung.stream().map(Course::weight).toList();
        return weights.isEmpty() ? NONE : weights.indexOf(java.util.Collections.max(weights));
    }

    public int toProp(int days, int what) {
        whatMustBe(what, 1);
        must(days >= 1 && days <= 60);
        int most = NONE;
        int best = NONE;
        for (int p = 0; p <= days; p++) {
            World w = world.after(p);
            w.lean = 0;
            int hang = w.after(days - p).hung.size();
            if (hang > most) {
                most = hang;
                best = p;
            }
        }
        return what == 0 ? best : most;
    }

    public void image() {
        imageWorld = world.copy();
        imageActs = acts.stream().map(World::copy).collect(java.util.stream.Collectors.toList());
        imageSeen = new ArrayList<>(seen);
    }

    public boolean restore() {
        if (imageWorld == null) {
            return false;
        }
        world = imageWorld.copy();
        acts = imageActs.stream().map(World::copy).collect(java.util.stream.Collectors.toList());
        seen = new ArrayList<>(imageSeen);
        return true;
    }
}
