import java.util.Arrays;
import java.util.NoSuchElementException;

/**
 * A tower that is built from the weathercock down and hangs on what a town believes.
 *
 * Every row is made in the constructor and used again, so that no call makes anything but the
 * exception that it throws. What is asked about days to come is tried on a copy of what is now.
 */
public final class CockTower {
    public static final int NONE = -1;

    private static final int MAX_TEXT = 700;
    private static final int FED_BYTES = 20;
    private static final int MAX_COURSES = 16;
    private static final int MAX_WARDS = 8;
    private static final int MAX_WINDS = 8;
    private static final int MAX_ACTS = 40;
    private static final int MAX_SEEN = 8;
    private static final int MAX_ROW = 4;

    private static final int MAX_AHEAD = 60;
    private static final int MAX_DAYS = 20;
    private static final int LAST_DAY = 9999;
    private static final int MAX_GIFT = 99;
    private static final int MAX_MONEY = 999;
    private static final int MAX_LEAN = 99;
    private static final int MAX_FAITH = 99;
    private static final int MAX_MORTAR = 9;
    private static final int MAX_WEIGHT = 9;
    private static final int SERMON = 10;
    private static final int DOUBT_BELOW = 10;
    private static final int PIOUS_FROM = 50;
    private static final int LOOK_DAYS = 5;
    private static final int GALE_DAYS = 5;
    private static final int GALE_WIND = 9;
    private static final int GAME_DAYS = 6;
    private static final int GAME_GIFT = 5;

    private static final int LEANS = 0;
    private static final int GIVES = 1;
    private static final int BELIEVES = 2;

    private static final int TEXTS = 0;
    private static final int ACTS = 1;
    private static final int SEEN = 2;

    private static final int[] FACTORIAL = {1, 1, 2, 6, 24};

    private final int[] refused = new int[3];
    private final State now = new State();
    private final State trial = new State();
    private final State second = new State();
    private final Acts acts = new Acts();
    private final Seen seen = new Seen();
    private final State imageState = new State();
    private final Acts imageActs = new Acts();
    private final Seen imageSeen = new Seen();
    private final long[] met = new long[2 * LOOK_DAYS];
    private final int[] gains = new int[8];
    private final Reader reader = new Reader();
    private Town laws = new Town();
    private int faultPlace = NONE;
    private boolean imageKept = false;

    public CockTower() {
    }

    // ---- the text

    public int feed(int a, int b, int c, int d, int e) {
        if (reader.length + FED_BYTES > MAX_TEXT) {
            return NONE;
        }
        reader.append(a);
        reader.append(b);
        reader.append(c);
        reader.append(d);
        reader.append(e);
        return reader.length;
    }

    public int town(int n) throws IllegalArgumentException {
        if (n < 0 || n > reader.length) {
            throw new IllegalArgumentException("the tape has not so many bytes");
        }
        int fault = reader.read(n);
        if (fault != 0) {
            faultPlace = reader.place;
            refused[TEXTS]++;
            return fault;
        }
        faultPlace = NONE;
        laws = reader.swapTown(laws);
        now.copy(reader.state);
        acts.clear();
        seen.clear();
        imageKept = false;
        return 0;
    }

    public int fault() {
        return faultPlace;
    }

    // ---- what is now

    public int count(int what) throws NoSuchElementException {
        switch (what) {
            case 0: return now.hung;
            case 1: return now.all - now.hung;
            case 2: return now.wards;
            case 3: return now.day;
            case 4: return now.money;
            case 5: return now.lean;
            case 6: return now.weightHung();
            case 7: return now.strength();
            case 8: return now.spare();
            case 9: return now.bears();
            case 10: return now.hung >= laws.ground ? 1 : 0;
            case 11: return now.fell;
            case 12: return Streets.parts(now);
            case 13: return now.unevenness(now.evenSet());
            case 14: return now.evenSet();
            case 15: return now.doubters();
            case 16: return acts.many;
            case 17: return seen.many;
            case 18: return reader.length;
            case 19: return refused[TEXTS];
            case 20: return refused[ACTS];
            case 21: return refused[SEEN];
            default: throw new NoSuchElementException("what");
        }
    }

    public int course(int course, int what) throws NoSuchElementException {
        if (course < 0 || course >= now.all) {
            throw new NoSuchElementException("course");
        }
        switch (what) {
            case 0: return now.weight[course];
            case 1: return now.mortar[course];
            case 2: return course < now.hung ? 1 : 0;
            default: throw new NoSuchElementException("what");
        }
    }

    public int ward(int ward, int what) throws NoSuchElementException {
        requireWard(ward);
        switch (what) {
            case 0: return now.faith[ward];
            case 1: return now.beside[ward];
            case 2: return now.doubt(ward, now.doubters());
            case 3: return laws.gift(now, ward, now.doubt(ward, now.doubters()));
            default: throw new NoSuchElementException("what");
        }
    }

    // ---- acts

    public int days(int many) {
        if (many < 1 || many > MAX_DAYS || now.day + many > LAST_DAY) {
            return refuse(ACTS);
        }
        acts.keep(now);
        for (int i = 0; i < many; i++) {
            now.passDay(laws, laws.windOn(now.day));
        }
        return now.day;
    }

    public int give(int gift) {
        if (gift < 1 || gift > MAX_GIFT) {
            return refuse(ACTS);
        }
        acts.keep(now);
        now.receive(gift);
        return now.money;
    }

    public int preach(int ward) throws NoSuchElementException {
        requireWard(ward);
        if (now.faith[ward] >= MAX_FAITH) {
            return refuse(ACTS);
        }
        acts.keep(now);
        now.addFaith(ward, SERMON);
        return now.faith[ward];
    }

    public int mortar(int course) throws NoSuchElementException {
        if (course < 0 || course >= now.hung) {
            throw new NoSuchElementException("course");
        }
        if (now.mortar[course] >= MAX_MORTAR) {
            return refuse(ACTS);
        }
        acts.keep(now);
        now.mortar[course]++;
        return now.mortar[course];
    }

    public int prop() {
        if (now.lean == 0) {
            return refuse(ACTS);
        }
        acts.keep(now);
        int was = now.lean;
        now.lean = 0;
        return was;
    }

    public boolean street(int ward, int other, boolean is) throws NoSuchElementException {
        requireWard(ward);
        requireWard(other);
        if (ward == other || now.isStreet(ward, other) == is) {
            refuse(ACTS);
            return false;
        }
        acts.keep(now);
        now.turnStreet(ward, other);
        return true;
    }

    public int undo() {
        return acts.takeBack(now) ? acts.many : NONE;
    }

    // ---- days to come

    public int then(int days, int what) throws NoSuchElementException, IllegalArgumentException {
        requireWhat(what, 6);
        requireFrom0(days, MAX_AHEAD);
        startTrial();
        int fallen = go(days);
        switch (what) {
            case 0: return trial.hung;
            case 1: return trial.weightHung();
            case 2: return trial.lean;
            case 3: return trial.money;
            case 4: return trial.all - trial.hung;
            case 5: return fallen;
            default: return trial.hung > 0 ? trial.weight[trial.hung - 1] : NONE;
        }
    }

    public int wardThen(int ward, int days, int what)
            throws NoSuchElementException, IllegalArgumentException {
        requireWard(ward);
        requireWhat(what, 1);
        requireFrom0(days, MAX_AHEAD);
        startTrial();
        int given = 0;
        for (int i = 0; i < days; i++) {
            passTrialDay();
            given += trial.gave[ward];
        }
        return what == 0 ? trial.faith[ward] : given;
    }

    public int reaches(int courses) throws IllegalArgumentException {
        requireFrom0(courses, MAX_COURSES);
        startTrial();
        for (int passed = 0; passed <= MAX_AHEAD; passed++) {
            if (trial.hung >= courses) {
                return passed;
            }
            passTrialDay();
        }
        return NONE;
    }

    public int falls() {
        startTrial();
        for (int i = 1; i <= MAX_AHEAD; i++) {
            passTrialDay();
            if (trial.fell > 0) {
                return i;
            }
        }
        return NONE;
    }

    public int later(int days, int what) throws NoSuchElementException, IllegalArgumentException {
        requireWhat(what, 1);
        requireFrom0(days, MAX_AHEAD);
        startTrial();
        go(days);
        return what == 0 ? trial.doubters() : trial.mostFaithful();
    }

    public int through(int days, int what) throws NoSuchElementException, IllegalArgumentException {
        requireWhat(what, 3);
        requireFrom1(days);
        startTrial();
        int worst = 0;
        int stands = 0;
        int richest = 1;
        int most = 0;
        int calm = 0;
        for (int i = 1; i <= days; i++) {
            passTrialDay();
            worst = Math.max(worst, trial.lean);
            stands += trial.hung >= laws.ground ? 1 : 0;
            calm += trial.fell == 0 ? 1 : 0;
            int given = trial.gaveTogether();
            if (given > most) {
                most = given;
                richest = i;
            }
        }
        switch (what) {
            case 0: return worst;
            case 1: return stands;
            case 2: return richest;
            default: return calm;
        }
    }

    public int pious(int ward, int days) throws NoSuchElementException, IllegalArgumentException {
        requireWard(ward);
        requireFrom1(days);
        startTrial();
        int pious = 0;
        for (int i = 0; i < days; i++) {
            passTrialDay();
            pious += trial.faith[ward] >= PIOUS_FROM ? 1 : 0;
        }
        return pious;
    }

    public int share(int ward, int days) throws NoSuchElementException, IllegalArgumentException {
        requireWard(ward);
        requireFrom0(days, MAX_AHEAD);
        startTrial();
        int own = 0;
        int together = 0;
        for (int i = 0; i < days; i++) {
            passTrialDay();
            own += trial.gave[ward];
            together += trial.gaveTogether();
        }
        return together > 0 ? own * 100 / together : 0;
    }

    public int heaviest(int days) throws IllegalArgumentException {
        requireFrom0(days, MAX_AHEAD);
        startTrial();
        go(days);
        return trial.heaviestHung();
    }

    // ---- the streets

    public int far(int ward, int other) throws NoSuchElementException {
        requireWard(ward);
        requireWard(other);
        return Streets.distance(now, ward, other);
    }

    public int apart(int ward, int other) throws NoSuchElementException {
        requireWard(ward);
        requireWard(other);
        return Streets.leastCut(now, ward, other);
    }

    // ---- what to do

    public int toPreach(int days) throws IllegalArgumentException {
        requireFrom1(days);
        int sets = 1 << now.wards;
        for (int size = 0; size <= now.wards; size++) {
            for (int set = 0; set < sets; set++) {
                if (Integer.bitCount(set) == size && standsIfPreached(set, days)) {
                    return set;
                }
            }
        }
        return NONE;
    }

    private boolean standsIfPreached(int set, int days) {
        startTrial();
        for (int w = 0; w < trial.wards; w++) {
            if ((set >> w & 1) == 1) {
                trial.addFaith(w, SERMON);
            }
        }
        for (int i = 0; i < days; i++) {
            passTrialDay();
            if (trial.fell > 0) {
                return false;
            }
        }
        return true;
    }

    public int row(int days, int what) throws NoSuchElementException, IllegalArgumentException {
        requireWhat(what, 1);
        requireFrom1(days);
        int length = Math.min(MAX_ROW, now.all - now.hung);
        int most = NONE;
        int best = NONE;
        for (int i = 0; i < FACTORIAL[length]; i++) {
            startTrial();
            int row = layRow(i, length);
            go(days);
            if (trial.hung > most) {
                most = trial.hung;
                best = row;
            }
        }
        if (what == 0) {
            return most;
        }
        return length == 0 ? NONE : best;
    }

    /** The trial's plan begins by the row that is the which-th of all, and that row is told. */
    private int layRow(int which, int length) {
        int row = 0;
        int used = 0;
        int rest = which;
        for (int i = 0; i < length; i++) {
            int rows = FACTORIAL[length - 1 - i];
            int place = unusedPlace(used, rest / rows);
            rest %= rows;
            used |= 1 << place;
            row = row * 10 + place;
            trial.weight[trial.hung + i] = now.weight[now.hung + place];
            trial.mortar[trial.hung + i] = now.mortar[now.hung + place];
        }
        return row;
    }

    private static int unusedPlace(int used, int skipped) {
        int left = skipped;
        for (int place = 0; place < MAX_ROW; place++) {
            if ((used >> place & 1) == 0) {
                if (left == 0) {
                    return place;
                }
                left--;
            }
        }
        return 0;
    }

    public int toMortar(int days) throws IllegalArgumentException {
        requireFrom1(days);
        startTrial();
        go(days);
        int most = trial.hung;
        int best = NONE;
        for (int c = 0; c < now.hung; c++) {
            if (now.mortar[c] < MAX_MORTAR) {
                startTrial();
                trial.mortar[c]++;
                go(days);
                if (trial.hung > most) {
                    most = trial.hung;
                    best = c;
                }
            }
        }
        return best;
    }

    public int toProp(int days, int what) throws NoSuchElementException, IllegalArgumentException {
        requireWhat(what, 1);
        requireFrom1(days);
        int most = NONE;
        int best = 0;
        second.copy(now);
        for (int passed = 0; passed <= days; passed++) {
            trial.copy(second);
            trial.lean = 0;
            go(days - passed);
            if (trial.hung > most) {
                most = trial.hung;
                best = passed;
            }
            second.passDay(laws, laws.windOn(second.day));
        }
        return what == 0 ? best : most;
    }

    // ---- what was seen

    public int see(int days, int lean) {
        boolean known = days >= 0 && days <= MAX_DAYS && lean >= 0 && lean <= MAX_LEAN;
        if (!known || !seen.add(days, lean)) {
            return refuse(SEEN);
        }
        return seen.many;
    }

    public void forget() {
        seen.clear();
    }

    public int heavy(int what) throws NoSuchElementException {
        requireWhat(what, 2);
        if (what == 2) {
            startTrial();
            return leansAsSeen() ? 1 : 0;
        }
        int many = 0;
        int first = NONE;
        for (int c = 0; c < now.hung; c++) {
            for (int weight = 1; weight <= MAX_WEIGHT; weight++) {
                if (maybeHeavy(c, weight)) {
                    first = many == 0 ? 10 * c + weight : first;
                    many++;
                }
            }
        }
        return what == 0 ? many : first;
    }

    private boolean maybeHeavy(int course, int weight) {
        if (now.weight[course] == weight) {
            return false;
        }
        startTrial();
        trial.weight[course] = weight;
        return leansAsSeen();
    }

    private boolean leansAsSeen() {
        int last = seen.lastDay();
        for (int passed = 0; passed <= last; passed++) {
            if (!seen.allows(passed, trial.lean)) {
                return false;
            }
            if (passed < last) {
                passTrialDay();
            }
        }
        return true;
    }

    public int look(int what) throws NoSuchElementException {
        requireWhat(what, 1);
        Arrays.fill(met, 0L);
        for (int c = 0; c < now.hung; c++) {
            for (int weight = 1; weight <= MAX_WEIGHT; weight++) {
                if (maybeHeavy(c, weight)) {
                    meetLeans(c, weight);
                }
            }
        }
        int most = 0;
        int best = NONE;
        for (int i = 0; i < LOOK_DAYS; i++) {
            int unlike = Long.bitCount(met[2 * i]) + Long.bitCount(met[2 * i + 1]);
            if (unlike > most) {
                most = unlike;
                best = i + 1;
            }
        }
        return what == 0 ? best : most;
    }

    /** Two longs a day hold as bits which of the leans 0 to 99 were met at its end. */
    private void meetLeans(int course, int weight) {
        startTrial();
        trial.weight[course] = weight;
        for (int i = 0; i < LOOK_DAYS; i++) {
            passTrialDay();
            met[2 * i + (trial.lean >> 6 & 1)] |= 1L << (trial.lean & 63);
        }
    }

    // ---- gales, a game, years

    public int gales(int days, int tenths) throws IllegalArgumentException {
        if (days < 1 || days > GALE_DAYS) {
            throw new IllegalArgumentException("days");
        }
        requireFrom0(tenths, 10);
        int likely = 0;
        for (int set = 0; set < 1 << days; set++) {
            if (standsInGales(set, days)) {
                int chance = 1;
                for (int i = 0; i < days; i++) {
                    chance *= (set >> i & 1) == 1 ? tenths : 10 - tenths;
                }
                likely += chance;
            }
        }
        return likely;
    }

    private boolean standsInGales(int set, int days) {
        startTrial();
        for (int i = 0; i < days; i++) {
            trial.passDay(laws, (set >> i & 1) == 1 ? GALE_WIND : 0);
            if (trial.fell > 0) {
                return false;
            }
        }
        return true;
    }

    public int game(int ward, int other, int what)
            throws NoSuchElementException, IllegalArgumentException {
        requireWard(ward);
        requireWard(other);
        requireWhat(what, 1);
        if (ward == other) {
            throw new IllegalArgumentException("both are one");
        }
        for (int choices = 0; choices < 4; choices++) {
            playGame(ward, other, choices);
        }
        int many = 0;
        int first = NONE;
        for (int choices = 0; choices < 4; choices++) {
            if (rests(choices)) {
                first = many == 0 ? 10 * (choices >> 1) + (choices & 1) : first;
                many++;
            }
        }
        return what == 0 ? many : first;
    }

    /** Of two choices as bits, the first one's the higher, what each of both gains. */
    private void playGame(int ward, int other, int choices) {
        int one = choices >> 1;
        int two = choices & 1;
        startTrial();
        beGenerous(ward, one);
        beGenerous(other, two);
        go(GAME_DAYS);
        gains[choices] = trial.faith[ward] + 2 * trial.hung - 4 * one;
        gains[4 + choices] = trial.faith[other] + 2 * trial.hung - 4 * two;
    }

    private boolean rests(int choices) {
        return gains[choices ^ 2] <= gains[choices] && gains[4 + (choices ^ 1)] <= gains[4 + choices];
    }

    private void beGenerous(int ward, int generous) {
        if (generous == 1) {
            trial.receive(GAME_GIFT);
            trial.addFaith(ward, -GAME_GIFT);
        }
    }

    public int years(int seed, int n, int what)
            throws NoSuchElementException, IllegalArgumentException {
        requireWhat(what, 2);
        requireFrom0(n, MAX_AHEAD);
        startTrial();
        int fallen = 0;
        int luck = seed;
        for (int i = 0; i < n; i++) {
            luck = trial.chance(luck);
            passTrialDay();
            fallen += trial.fell;
        }
        switch (what) {
            case 0: return trial.hung;
            case 1: return fallen;
            default: return trial.faithTogether();
        }
    }

    // ---- the image

    public void image() {
        imageState.copy(now);
        imageActs.copy(acts);
        imageSeen.copy(seen);
        imageKept = true;
    }

    public boolean restore() {
        if (!imageKept) {
            return false;
        }
        now.copy(imageState);
        acts.copy(imageActs);
        seen.copy(imageSeen);
        return true;
    }

    // ---- what many calls use

    private int refuse(int kind) {
        refused[kind]++;
        return NONE;
    }

    private void requireWard(int ward) {
        if (ward < 0 || ward >= now.wards) {
            throw new NoSuchElementException("ward");
        }
    }

    private static void requireWhat(int what, int most) {
        if (what < 0 || what > most) {
            throw new NoSuchElementException("what");
        }
    }

    private static void requireFrom0(int number, int most) {
        if (number < 0 || number > most) {
            throw new IllegalArgumentException("not within 0 and the most");
        }
    }

    private static void requireFrom1(int days) {
        if (days < 1 || days > MAX_AHEAD) {
            throw new IllegalArgumentException("days");
        }
    }

    private void startTrial() {
        trial.copy(now);
    }

    private void passTrialDay() {
        trial.passDay(laws, laws.windOn(trial.day));
    }

    /** So many days go by in the trial: how many courses fell in them. */
    private int go(int days) {
        int fallen = 0;
        for (int i = 0; i < days; i++) {
            passTrialDay();
            fallen += trial.fell;
        }
        return fallen;
    }

    private static int within(int number, int least, int most) {
        return number < least ? least : Math.min(number, most);
    }

    /**
     * What changes from day to day. Courses that hang are the first ones of a row, those of the
     * plan stand behind them: 0 <= hung <= all <= MAX_COURSES, 0 <= wards <= MAX_WARDS.
     */
    private static final class State {
        static final int CELLS = MAX_COURSES + MAX_WARDS + 6;

        final int[] weight = new int[MAX_COURSES];
        final int[] mortar = new int[MAX_COURSES];
        final int[] faith = new int[MAX_WARDS];
        final int[] beside = new int[MAX_WARDS];
        // What each gave on the latest day that went by in this very object: no part of what is kept.
        final int[] gave = new int[MAX_WARDS];
        int all = 0;
        int hung = 0;
        int wards = 0;
        int day = 0;
        int money = 0;
        int lean = 0;
        int fell = 0;

        void clear() {
            Arrays.fill(weight, 0);
            Arrays.fill(mortar, 0);
            Arrays.fill(faith, 0);
            Arrays.fill(beside, 0);
            all = 0;
            hung = 0;
            wards = 0;
            day = 0;
            money = 0;
            lean = 0;
            fell = 0;
        }

        void copy(State from) {
            System.arraycopy(from.weight, 0, weight, 0, MAX_COURSES);
            System.arraycopy(from.mortar, 0, mortar, 0, MAX_COURSES);
            System.arraycopy(from.faith, 0, faith, 0, MAX_WARDS);
            System.arraycopy(from.beside, 0, beside, 0, MAX_WARDS);
            all = from.all;
            hung = from.hung;
            wards = from.wards;
            day = from.day;
            money = from.money;
            lean = from.lean;
            fell = from.fell;
        }

        /** Two small numbers share a cell, because 80 states are held for each object. */
        void save(int[] cells, int at) {
            if (at < 0 || at > cells.length - CELLS) {
                return;
            }
            for (int c = 0; c < MAX_COURSES; c++) {
                cells[at + c] = weight[c] * 10 + mortar[c];
            }
            for (int w = 0; w < MAX_WARDS; w++) {
                cells[at + MAX_COURSES + w] = beside[w] * 100 + faith[w];
            }
            int rest = at + MAX_COURSES + MAX_WARDS;
            cells[rest] = all;
            cells[rest + 1] = hung;
            cells[rest + 2] = day;
            cells[rest + 3] = money;
            cells[rest + 4] = lean;
            cells[rest + 5] = fell;
        }

        void load(int[] cells, int at) {
            if (at < 0 || at > cells.length - CELLS) {
                return;
            }
            for (int c = 0; c < MAX_COURSES; c++) {
                weight[c] = cells[at + c] / 10;
                mortar[c] = cells[at + c] % 10;
            }
            for (int w = 0; w < MAX_WARDS; w++) {
                beside[w] = cells[at + MAX_COURSES + w] / 100;
                faith[w] = cells[at + MAX_COURSES + w] % 100;
            }
            int rest = at + MAX_COURSES + MAX_WARDS;
            all = cells[rest];
            hung = cells[rest + 1];
            day = cells[rest + 2];
            money = cells[rest + 3];
            lean = cells[rest + 4];
            fell = cells[rest + 5];
        }

        void addCourse(int itsWeight, int itsMortar, boolean hangs) {
            if (all >= MAX_COURSES) {
                return;
            }
            int at = hangs ? hung : all;
            for (int c = all; c > at; c--) {
                weight[c] = weight[c - 1];
                mortar[c] = mortar[c - 1];
            }
            weight[at] = itsWeight;
            mortar[at] = itsMortar;
            all++;
            hung += hangs ? 1 : 0;
        }

        void addWard(int itsFaith) {
            if (wards < MAX_WARDS) {
                faith[wards] = itsFaith;
                wards++;
            }
        }

        boolean isStreet(int ward, int other) {
            return (beside[ward] >> other & 1) == 1;
        }

        void turnStreet(int ward, int other) {
            beside[ward] ^= 1 << other;
            beside[other] ^= 1 << ward;
        }

        void receive(int gift) {
            money = Math.min(MAX_MONEY, money + gift);
        }

        void addFaith(int ward, int more) {
            faith[ward] = within(faith[ward] + more, 0, MAX_FAITH);
        }

        int weightHung() {
            int sum = 0;
            for (int c = 0; c < hung; c++) {
                sum += weight[c];
            }
            return sum;
        }

        int mortarHung() {
            int sum = 0;
            for (int c = 0; c < hung; c++) {
                sum += mortar[c];
            }
            return sum;
        }

        int faithTogether() {
            int sum = 0;
            for (int w = 0; w < wards; w++) {
                sum += faith[w];
            }
            return sum;
        }

        int gaveTogether() {
            int sum = 0;
            for (int w = 0; w < wards; w++) {
                sum += gave[w];
            }
            return sum;
        }

        int strength() {
            return faithTogether() / 10 + mortarHung();
        }

        int spare() {
            return strength() - weightHung() - lean / 5;
        }

        int bears() {
            int left = spare();
            int most = 0;
            for (int c = hung; c < all; c++) {
                left += mortar[c] - weight[c];
                if (left >= 0) {
                    most = c - hung + 1;
                }
            }
            return most;
        }

        int doubters() {
            int set = 0;
            for (int w = 0; w < wards; w++) {
                if (faith[w] < DOUBT_BELOW) {
                    set |= 1 << w;
                }
            }
            return set;
        }

        int doubt(int ward, int doubters) {
            return Integer.bitCount(beside[ward] & doubters);
        }

        int mostFaithful() {
            int best = NONE;
            int most = NONE;
            for (int w = 0; w < wards; w++) {
                if (faith[w] > most) {
                    most = faith[w];
                    best = w;
                }
            }
            return best;
        }

        int heaviestHung() {
            int best = NONE;
            int most = 0;
            for (int c = 0; c < hung; c++) {
                if (weight[c] > most) {
                    most = weight[c];
                    best = c;
                }
            }
            return best;
        }

        int evenSet() {
            int best = 0;
            int least = MAX_WARDS * MAX_FAITH + 1;
            for (int set = 1; set < 1 << wards; set += 2) {
                int unevenness = unevenness(set);
                if (unevenness < least) {
                    least = unevenness;
                    best = set;
                }
            }
            return best;
        }

        int unevenness(int set) {
            int difference = 0;
            for (int w = 0; w < wards; w++) {
                difference += (set >> w & 1) == 1 ? faith[w] : -faith[w];
            }
            return Math.abs(difference);
        }

        void passDay(Town town, int wind) {
            lean = within(lean + town.leaning(this, wind), 0, MAX_LEAN);
            // No faith changes before all believe, so who doubts is the same for gifts and belief.
            int doubters = doubters();
            for (int w = 0; w < wards; w++) {
                gave[w] = town.gift(this, w, doubt(w, doubters));
                receive(gave[w]);
            }
            hangNext(town.cost);
            fell = dropLowest(town.ground, spare());
            for (int w = 0; w < wards; w++) {
                addFaith(w, town.belief(this, w, doubt(w, doubters)));
            }
            day++;
        }

        private void hangNext(int cost) {
            if (money >= cost && hung < all) {
                money -= cost;
                hung++;
            }
        }

        private int dropLowest(int ground, int spareAtFirst) {
            int fallen = 0;
            int left = spareAtFirst;
            while (fallen < MAX_COURSES && hung > 0 && hung < ground && left < 0) {
                left += weight[hung - 1] - mortar[hung - 1];
                takeLowest();
                fallen++;
            }
            return fallen;
        }

        private void takeLowest() {
            for (int c = hung; c < all; c++) {
                weight[c - 1] = weight[c];
                mortar[c - 1] = mortar[c];
            }
            hung--;
            all--;
        }

        /** What a seed brings ahead of a day: the seed then. */
        int chance(int seed) {
            int luck = nextSeed(seed);
            int kind = draw(luck, 6);
            if (kind == 0 && wards > 0) {
                luck = nextSeed(luck);
                int ward = draw(luck, wards);
                luck = nextSeed(luck);
                faith[ward] = draw(luck, 100);
            } else if (kind == 1) {
                luck = nextSeed(luck);
                money = draw(luck, 50);
            } else if (kind == 2 && hung > 0) {
                luck = nextSeed(luck);
                mortar[draw(luck, hung)] = 0;
            }
            return luck;
        }

        private static int nextSeed(int seed) {
            return seed * 1103515245 + 12345;
        }

        private static int draw(int seed, int of) {
            return of > 0 ? (seed >>> 16 & 0x7fff) % of : 0;
        }
    }

    /** What a text tells for good: ground, cost, wind, and the rules as rows of codes. */
    private static final class Town {
        // A code of 0 or more is a number itself, -1 to -9 is the value of that place.
        static final int NOT = -10;
        static final int OR = -11;
        static final int AND = -12;
        static final int LESS = -13;
        static final int EQUAL = -14;
        static final int PLUS = -15;
        static final int MINUS = -16;
        static final int TIMES = -17;
        static final int OVER = -18;

        static final int VALUES = 9;
        // Five operands may wait in each of 6 levels of parentheses, and one stands on them.
        static final int STACK = 32;

        final int[] wind = new int[MAX_WINDS];
        final int[] codes = new int[MAX_TEXT];
        final int[] from = {NONE, NONE, NONE};
        final int[] to = {NONE, NONE, NONE};
        final int[] values = new int[VALUES];
        final int[] stack = new int[STACK];
        int written = 0;
        int winds = 0;
        int ground = 9;
        int cost = 10;

        void clear() {
            Arrays.fill(from, NONE);
            Arrays.fill(to, NONE);
            written = 0;
            winds = 0;
            ground = 9;
            cost = 10;
        }

        boolean hasRule(int rule) {
            return from[rule] != NONE;
        }

        void beginRule(int rule) {
            from[rule] = written;
            to[rule] = written;
        }

        void write(int rule, int code) {
            if (written < MAX_TEXT) {
                codes[written] = code;
                written++;
                to[rule] = written;
            }
        }

        void addWind(int one) {
            if (winds < MAX_WINDS) {
                wind[winds] = one;
                winds++;
            }
        }

        int windOn(int day) {
            return winds > 0 ? wind[Math.floorMod(day, winds)] : 2;
        }

        int leaning(State s, int windNow) {
            if (!hasRule(LEANS)) {
                return within(windNow - s.mortarHung() / 4, -9, 9);
            }
            setValues(s);
            values[3] = windNow;
            values[4] = s.weightHung();
            values[5] = s.mortarHung();
            return within(run(LEANS), -9, 9);
        }

        int gift(State s, int ward, int doubt) {
            if (!hasRule(GIVES)) {
                return s.faith[ward] / 20;
            }
            setWardValues(s, ward, doubt);
            return within(run(GIVES), 0, 20);
        }

        int belief(State s, int ward, int doubt) {
            if (!hasRule(BELIEVES)) {
                return within(1 - doubt - 3 * s.fell, -9, 9);
            }
            setWardValues(s, ward, doubt);
            return within(run(BELIEVES), -9, 9);
        }

        private void setValues(State s) {
            values[0] = s.lean;
            values[1] = s.hung;
            values[2] = s.day;
        }

        private void setWardValues(State s, int ward, int doubt) {
            setValues(s);
            values[6] = s.faith[ward];
            values[7] = doubt;
            values[8] = s.fell;
        }

        private int run(int rule) {
            int top = 0;
            for (int i = from[rule]; i < to[rule]; i++) {
                int code = codes[i];
                if (code > NOT && top < STACK) {
                    stack[top] = code >= 0 ? code : values[-1 - code];
                    top++;
                } else if (code == NOT && top >= 1) {
                    stack[top - 1] = stack[top - 1] == 0 ? 1 : 0;
                } else if (code < NOT && top >= 2) {
                    top--;
                    stack[top - 1] = join(code, stack[top - 1], stack[top]);
                }
            }
            return top > 0 ? stack[0] : 0;
        }

        private static int join(int code, int one, int two) {
            switch (code) {
                case OR: return one != 0 || two != 0 ? 1 : 0;
                case AND: return one != 0 && two != 0 ? 1 : 0;
                case LESS: return one < two ? 1 : 0;
                case EQUAL: return one == two ? 1 : 0;
                case PLUS: return one + two;
                case MINUS: return one - two;
                case TIMES: return one * two;
                case OVER: return two == 0 ? 0 : one / two;
                default: return 0;
            }
        }
    }

    /** The words of the language; value is the place of its number in a town's values. */
    private enum Word {
        HUNG("hung", NONE),
        PLAN("plan", NONE),
        GROUND("ground", NONE),
        COST("cost", NONE),
        WARD("ward", NONE),
        STREET("street", NONE),
        LEANS("leans", NONE),
        GIVES("gives", NONE),
        BELIEVES("believes", NONE),
        OR("or", NONE),
        AND("and", NONE),
        NOT("not", NONE),
        LEAN("lean", 0),
        HEIGHT("height", 1),
        DAY("day", 2),
        WIND("wind", 3),
        WEIGHT("weight", 4),
        MORTAR("mortar", 5),
        FAITH("faith", 6),
        DOUBT("doubt", 7),
        FELL("fell", 8),
        OTHER("", NONE);

        private static final Word[] ALL = values();

        final String text;
        final int value;

        Word(String text, int value) {
            this.text = text;
            this.value = value;
        }

        static Word of(byte[] bytes, int from, int to) {
            for (int i = 0; i < ALL.length; i++) {
                String text = ALL[i].text;
                int alike = 0;
                while (alike < text.length() && from + alike < to
                        && text.charAt(alike) == bytes[from + alike]) {
                    alike++;
                }
                if (alike == text.length() && from + alike == to) {
                    return ALL[i];
                }
            }
            return OTHER;
        }

        boolean isValueOf(int rule) {
            if (value < 0) {
                return false;
            }
            if (value < 3) {
                return true;
            }
            return rule == CockTower.LEANS ? value < 6 : value >= 6;
        }
    }

    /** Holds the tape, and reads it, token by token, up to its end or its first fault. */
    private static final class Reader {
        static final int END = 0;
        static final int WORD = 1;
        static final int NUMBER = 2;
        static final int SIGN = 3;
        static final int OTHER = 4;

        static final int CANT_STAND = 1;
        static final int TOO_MUCH = 2;
        static final int UNKNOWN = 3;
        static final int SAME_STREET = 4;
        static final int TWICE = 5;

        static final int MAX_DIGITS = 4;
        static final int MAX_DEPTH = 6;
        static final int MAX_NOTS = 6;

        final byte[] bytes = new byte[MAX_TEXT];
        final State state = new State();
        Town town = new Town();
        int length = 0;
        int end = 0;
        int at = 0;
        int next = 0;
        int kind = END;
        int number = 0;
        char sign = ' ';
        Word word = Word.OTHER;
        int fault = 0;
        int place = 0;
        boolean groundTold = false;
        boolean costTold = false;

        void append(int four) {
            for (int shift = 24; shift >= 0 && length < MAX_TEXT; shift -= 8) {
                bytes[length] = (byte) (four >>> shift);
                length++;
            }
        }

        /** Gives the town that was read last away, for one that may be written over. */
        Town swapTown(Town spare) {
            Town mine = town;
            town = spare;
            return mine;
        }

        /** The first n bytes are told into the town and the state: 0, or the fault. */
        int read(int n) {
            town.clear();
            state.clear();
            end = Math.min(n, length);
            length = 0;
            next = 0;
            fault = 0;
            place = 0;
            groundTold = false;
            costTold = false;
            step();
            boolean good = true;
            for (int i = 0; i < MAX_TEXT && good && kind != END; i++) {
                good = readLine();
            }
            return fault;
        }

        private boolean fail(int which) {
            fault = which;
            place = at;
            return false;
        }

        // ---- tokens

        private void step() {
            at = next;
            while (at < end && (bytes[at] == ' ' || bytes[at] == '\n')) {
                at++;
            }
            next = at;
            kind = at < end ? kindOf(bytes[at]) : END;
            if (kind == END) {
                return;
            }
            sign = (char) (bytes[at] & 255);
            next++;
            boolean isRow = kind == WORD || kind == NUMBER;
            while (isRow && next < end && kindOf(bytes[next]) == kind) {
                next++;
            }
            if (kind == WORD) {
                word = Word.of(bytes, at, next);
            } else if (kind == NUMBER) {
                number = valueOfDigits();
            }
        }

        private static int kindOf(byte one) {
            if (one >= 'a' && one <= 'z') {
                return WORD;
            }
            if (one >= '0' && one <= '9') {
                return NUMBER;
            }
            return ";()+-*/<=".indexOf((char) (one & 255)) >= 0 ? SIGN : OTHER;
        }

        private int valueOfDigits() {
            int value = 0;
            for (int i = at; i < next && i < at + MAX_DIGITS; i++) {
                value = value * 10 + bytes[i] - '0';
            }
            return value;
        }

        private boolean isSign(char one) {
            return kind == SIGN && sign == one;
        }

        private boolean isWord(Word one) {
            return kind == WORD && word == one;
        }

        // ---- lines

        private boolean readLine() {
            if (kind != WORD) {
                return fail(CANT_STAND);
            }
            switch (word) {
                case HUNG: return readCourse(true);
                case PLAN: return readCourse(false);
                case GROUND: return readGround();
                case COST: return readCost();
                case WARD: return readWard();
                case STREET: return readStreet();
                case WIND: return readWinds();
                case LEANS: return readRule(CockTower.LEANS);
                case GIVES: return readRule(CockTower.GIVES);
                case BELIEVES: return readRule(CockTower.BELIEVES);
                default: return fail(CANT_STAND);
            }
        }

        private boolean readCourse(boolean hangs) {
            if (state.all >= MAX_COURSES) {
                return fail(TOO_MUCH);
            }
            step();
            if (!isNumber(1, MAX_WEIGHT)) {
                return false;
            }
            int weight = number;
            step();
            if (!isNumber(0, MAX_MORTAR)) {
                return false;
            }
            state.addCourse(weight, number, hangs);
            step();
            return endLine();
        }

        private boolean readGround() {
            if (groundTold) {
                return fail(TWICE);
            }
            groundTold = true;
            step();
            if (!isNumber(2, MAX_COURSES)) {
                return false;
            }
            town.ground = number;
            step();
            return endLine();
        }

        private boolean readCost() {
            if (costTold) {
                return fail(TWICE);
            }
            costTold = true;
            step();
            if (!isNumber(1, 99)) {
                return false;
            }
            town.cost = number;
            step();
            return endLine();
        }

        private boolean readWard() {
            if (state.wards >= MAX_WARDS) {
                return fail(TOO_MUCH);
            }
            step();
            if (!isNumber(0, MAX_FAITH)) {
                return false;
            }
            state.addWard(number);
            step();
            return endLine();
        }

        private boolean readStreet() {
            step();
            if (!isToldWard()) {
                return false;
            }
            int ward = number;
            step();
            if (!isToldWard()) {
                return false;
            }
            if (number == ward || state.isStreet(ward, number)) {
                return fail(SAME_STREET);
            }
            state.turnStreet(ward, number);
            step();
            return endLine();
        }

        private boolean isToldWard() {
            if (!isNumber(0, 9999)) {
                return false;
            }
            return number < state.wards || fail(UNKNOWN);
        }

        private boolean readWinds() {
            if (town.winds > 0) {
                return fail(TWICE);
            }
            step();
            for (int i = 0; i <= MAX_WINDS && (i == 0 || kind == NUMBER); i++) {
                if (!isNumber(0, i < MAX_WINDS ? 9 : NONE)) {
                    return false;
                }
                town.addWind(number);
                step();
            }
            return endLine();
        }

        /** Whether a number stands here that is neither too long nor out of its bounds. */
        private boolean isNumber(int least, int most) {
            if (kind != NUMBER) {
                return fail(CANT_STAND);
            }
            if (next - at > MAX_DIGITS || number < least || number > most) {
                return fail(TOO_MUCH);
            }
            return true;
        }

        private boolean endLine() {
            if (!isSign(';')) {
                return fail(CANT_STAND);
            }
            step();
            return true;
        }

        // ---- rules

        private boolean readRule(int rule) {
            if (town.hasRule(rule)) {
                return fail(TWICE);
            }
            town.beginRule(rule);
            step();
            return readExpr(rule, 0) && endLine();
        }

        /** Depth is how many others this one stands within. */
        private boolean readExpr(int rule, int depth) {
            if (depth >= MAX_DEPTH) {
                boolean begins = kind == NUMBER || kind == WORD || isSign('(');
                return fail(begins ? TOO_MUCH : CANT_STAND);
            }
            boolean good = readAnd(rule, depth);
            for (int i = 0; i < MAX_TEXT && good && isWord(Word.OR); i++) {
                step();
                good = readAnd(rule, depth);
                town.write(rule, Town.OR);
            }
            return good;
        }

        private boolean readAnd(int rule, int depth) {
            boolean good = readNot(rule, depth);
            for (int i = 0; i < MAX_TEXT && good && isWord(Word.AND); i++) {
                step();
                good = readNot(rule, depth);
                town.write(rule, Town.AND);
            }
            return good;
        }

        private boolean readNot(int rule, int depth) {
            int nots = 0;
            while (nots <= MAX_NOTS && isWord(Word.NOT)) {
                nots++;
                if (nots > MAX_NOTS) {
                    return fail(TOO_MUCH);
                }
                step();
            }
            boolean good = readTest(rule, depth);
            for (int i = 0; i < nots; i++) {
                town.write(rule, Town.NOT);
            }
            return good;
        }

        private boolean readTest(int rule, int depth) {
            if (!readSum(rule, depth)) {
                return false;
            }
            if (!isSign('<') && !isSign('=')) {
                return true;
            }
            int code = sign == '<' ? Town.LESS : Town.EQUAL;
            step();
            boolean good = readSum(rule, depth);
            town.write(rule, code);
            return good;
        }

        private boolean readSum(int rule, int depth) {
            boolean good = readProduct(rule, depth);
            for (int i = 0; i < MAX_TEXT && good && (isSign('+') || isSign('-')); i++) {
                int code = sign == '+' ? Town.PLUS : Town.MINUS;
                step();
                good = readProduct(rule, depth);
                town.write(rule, code);
            }
            return good;
        }

        private boolean readProduct(int rule, int depth) {
            boolean good = readPart(rule, depth);
            for (int i = 0; i < MAX_TEXT && good && (isSign('*') || isSign('/')); i++) {
                int code = sign == '*' ? Town.TIMES : Town.OVER;
                step();
                good = readPart(rule, depth);
                town.write(rule, code);
            }
            return good;
        }

        private boolean readPart(int rule, int depth) {
            if (isSign('(')) {
                step();
                if (!readExpr(rule, depth + 1)) {
                    return false;
                }
                if (!isSign(')')) {
                    return fail(CANT_STAND);
                }
            } else if (kind == WORD) {
                if (!word.isValueOf(rule)) {
                    return fail(UNKNOWN);
                }
                town.write(rule, -1 - word.value);
            } else if (isNumber(0, 9999)) {
                town.write(rule, number);
            } else {
                return false;
            }
            step();
            return true;
        }
    }

    /** The latest acts, each held as the state ahead of it, in a ring. */
    private static final class Acts {
        final int[] cells = new int[MAX_ACTS * State.CELLS];
        int first = 0;
        int many = 0;

        void clear() {
            first = 0;
            many = 0;
        }

        void copy(Acts other) {
            System.arraycopy(other.cells, 0, cells, 0, cells.length);
            first = other.first;
            many = other.many;
        }

        void keep(State ahead) {
            if (many == MAX_ACTS) {
                first = (first + 1) % MAX_ACTS;
                many--;
            }
            ahead.save(cells, (first + many) % MAX_ACTS * State.CELLS);
            many++;
        }

        boolean takeBack(State state) {
            if (many == 0) {
                return false;
            }
            many--;
            state.load(cells, (first + many) % MAX_ACTS * State.CELLS);
            return true;
        }
    }

    private static final class Seen {
        final int[] days = new int[MAX_SEEN];
        final int[] leans = new int[MAX_SEEN];
        int many = 0;

        void clear() {
            many = 0;
        }

        void copy(Seen other) {
            System.arraycopy(other.days, 0, days, 0, MAX_SEEN);
            System.arraycopy(other.leans, 0, leans, 0, MAX_SEEN);
            many = other.many;
        }

        boolean add(int behind, int lean) {
            if (many >= MAX_SEEN) {
                return false;
            }
            days[many] = behind;
            leans[many] = lean;
            many++;
            return true;
        }

        int lastDay() {
            int last = NONE;
            for (int i = 0; i < many; i++) {
                last = Math.max(last, days[i]);
            }
            return last;
        }

        boolean allows(int behind, int lean) {
            for (int i = 0; i < many; i++) {
                if (days[i] == behind && leans[i] != lean) {
                    return false;
                }
            }
            return true;
        }
    }

    /** Ways through the town; sets of wards are bits. */
    private static final class Streets {
        private static int spread(State s, int set) {
            int wider = set;
            for (int w = 0; w < s.wards; w++) {
                if ((set >> w & 1) == 1) {
                    wider |= s.beside[w];
                }
            }
            return wider;
        }

        private static int reached(State s, int ward, int barred) {
            int set = 1 << ward;
            for (int i = 0; i < MAX_WARDS; i++) {
                set = spread(s, set) & ~barred;
            }
            return set;
        }

        static int distance(State s, int ward, int other) {
            int set = 1 << ward;
            for (int far = 0; far < MAX_WARDS; far++) {
                if ((set >> other & 1) == 1) {
                    return far;
                }
                set = spread(s, set);
            }
            return NONE;
        }

        static int parts(State s) {
            int met = 0;
            int many = 0;
            for (int w = 0; w < s.wards; w++) {
                if ((met >> w & 1) == 0) {
                    met |= reached(s, w, 0);
                    many++;
                }
            }
            return many;
        }

        static int leastCut(State s, int ward, int other) {
            if (ward == other || s.isStreet(ward, other)) {
                return NONE;
            }
            int ends = 1 << ward | 1 << other;
            int best = NONE;
            int fewest = MAX_WARDS + 1;
            for (int set = 0; set < 1 << s.wards; set++) {
                boolean fewer = (set & ends) == 0 && Integer.bitCount(set) < fewest;
                if (fewer && (reached(s, ward, set) >> other & 1) == 0) {
                    fewest = Integer.bitCount(set);
                    best = set;
                }
            }
            return best;
        }
    }
}
