import java.util.Arrays;

/**
 * Who can stand in: posts, the people who can do them, and what follows when some are away.
 *
 * <p>All rows are made in the constructor and used again, so that no later call makes an object.
 */
public final class PostsFilled {
    public static final int NONE = -1, BAD = -2, STATE = -3, FULL = -4;
    public static final long NO = -4611686018427387904L;

    private static final int NONE_SUCH = -5;
    private static final int NOTHING = -11;
    private static final int OUTSIDE = -12;
    private static final int OF_ANOTHER_SORT = -13;
    private static final int SIZE_BELOW_0 = -14;
    private static final int FAULT_AT_0 = -100;

    private static final int MOST_POSTS = 6;
    private static final int MOST_PEOPLE = 7;
    private static final int MOST_YEARS = 99;
    private static final int MOST_TEXTS = 6;
    private static final int MOST_SHEETS = 4;
    private static final int MOST_CELLS = 40;
    private static final int MOST_BYTES = 160;

    private static final String FIRST_RULE =
            "well 5 + own * 5 - years * ( 1 - own ) ; cost 3 + value - number ; pay 10 ;";

    private final Office office = new Office();
    private final Person[] crew = new Person[MOST_PEOPLE];
    private int crewSize = 0;

    private final Reader reader;
    private final Text[] texts = new Text[MOST_TEXTS];
    private int textsSize = 0;
    private int rule = 0;
    private final int[] names = new int[Text.NAMES];

    private final Cover cover = new Cover();
    private final Plan plan = new Plan();
    private final Course course = new Course();
    private final Sheet[] sheets = new Sheet[MOST_SHEETS];

    private boolean hasImage = false;
    private int imageYears = 0;
    private int imageRule = 0;
    private int imageCrewSize = 0;

    public PostsFilled() {
        for (int i = 0; i < MOST_PEOPLE; i++) {
            crew[i] = new Person();
        }
        for (int i = 0; i < MOST_TEXTS; i++) {
            texts[i] = new Text();
        }
        for (int i = 0; i < MOST_SHEETS; i++) {
            sheets[i] = new Sheet();
        }
        reader = new Reader(texts[0]);
        for (int i = 0; i < FIRST_RULE.length(); i++) {
            reader.take(FIRST_RULE.charAt(i));
        }
        reader.read(texts[0]);
        textsSize = 1;
    }

    // ---- posts, people

    public int post(int must, int value) {
        if (!isFlag(must) || value < 0 || value > 99) {
            return BAD;
        }
        return office.open(must == 1, value);
    }

    public int person(int kind, int rest) {
        return hire(kind, rest);
    }

    public int years(int n) {
        if (n < 1 || n > 9) {
            return BAD;
        }
        if (office.year + n > MOST_YEARS) {
            return FULL;
        }
        office.year += n;
        return office.year;
    }

    public int teach(int person, int post) {
        if (!isPerson(person) || !office.has(post)) {
            return BAD;
        }
        Person one = crew[person];
        if (one.isBarred(post) || one.own == post) {
            return STATE;
        }
        one.last[post] = office.year;
        return one.lessonsHad();
    }

    public int bar(int person, int post, int is) {
        if (!isPerson(person) || !office.has(post) || !isFlag(is)) {
            return BAD;
        }
        Person one = crew[person];
        int was = one.isBarred(post) ? 1 : 0;
        one.setBar(post, is == 1);
        return was;
    }

    public int told(int person, int post, int what) {
        if (!isPerson(person) || what < 0 || what > 9 || (what >= 7 && !office.has(post))) {
            return NONE_SUCH;
        }
        Person one = crew[person];
        switch (what) {
            case 0: return one.kind;
            case 1: return one.own;
            case 2: return one.number;
            case 3: return one.chance;
            case 4: return one.keeps();
            case 5: return one.counts(office);
            case 6: return one.asked;
            case 7: return one.can(post, office) ? 1 : 0;
            case 8: return wellOf(one, post);
            default: return costOf(one, post);
        }
    }

    // ---- texts

    public int feed(int n, long bytes) {
        if (n < 1 || n > 8) {
            return BAD;
        }
        if (reader.size + n > MOST_BYTES) {
            return FULL;
        }
        for (int i = 0; i < n; i++) {
            reader.take((int) (bytes >>> (8 * i)) & 255);
        }
        return reader.size;
    }

    public int text() {
        if (textsSize >= MOST_TEXTS) {
            return FULL;
        }
        int fault = reader.read(texts[textsSize]);
        if (fault != NONE) {
            return FAULT_AT_0 - fault;
        }
        textsSize++;
        return textsSize - 1;
    }

    public int force(int text) {
        if (text < 0 || text >= textsSize) {
            return BAD;
        }
        int was = rule;
        rule = text;
        return was;
    }

    // ---- fillings

    public int fill(int away, int post) {
        if (!isCrewSet(away) || (post != NONE && !office.has(post))) {
            return BAD;
        }
        int worth = planWithout(away);
        if (worth == NONE) {
            return STATE;
        }
        return post == NONE ? worth : plan.at[post];
    }

    public int few(int away) {
        if (!isCrewSet(away)) {
            return BAD;
        }
        lookWhoCan();
        return cover.tooFew(everyone() & ~away);
    }

    public int holds(int many) {
        if (many < 0 || many > 7) {
            return BAD;
        }
        lookWhoCan();
        return cover.bears(many, crewSize) ? 1 : 0;
    }

    public int worst(int many, int what) {
        if (many < 0 || many > 7 || !isFlag(what)) {
            return BAD;
        }
        return what == 0 ? firstThatBreaks(many) : poorestThatFills(many);
    }

    public int lessons(int many, int what) {
        if (many < 0 || many > 2 || what < 0 || what > 2) {
            return BAD;
        }
        lookWhoCan();
        course.clear();
        if (!cover.bears(many, crewSize)) {
            offerLessons();
            course.seek(cover.lacking(many, 1), cover.lacking(many, 2), cover.lacking(many, 3));
        }
        if (course.found == NONE) {
            return NONE;
        }
        return what == 0 ? course.found : what == 1 ? course.price : course.which;
    }

    public int ring() {
        lookWhoCan();
        for (int i = 0; i < crewSize; i++) {
            int next = crew[i + 1 < crewSize ? i + 1 : 0].own;
            if (!crew[i].isBarred(next)) {
                cover.able[next] |= 1 << i;
            }
        }
        cover.spread();
        int most = NONE;
        for (int many = 0; many <= crewSize && cover.bears(many, crewSize); many++) {
            most = many;
        }
        return most;
    }

    public long sure(int part) {
        if (!isFlag(part)) {
            return NO;
        }
        lookWhoCan();
        long above = 0;
        long below = 1;
        for (int i = 0; i < crewSize; i++) {
            below *= 10;
        }
        for (int away = 0; away <= everyone(); away++) {
            if (cover.tooFew(everyone() & ~away) == NONE) {
                above += tenthsOf(away);
            }
        }
        long shared = commonDivisor(below, above);
        return (part == 0 ? above : below) / (shared > 0 ? shared : 1);
    }

    // ---- done, paid

    public int done(int away) {
        if (!isCrewSet(away)) {
            return BAD;
        }
        if (planWithout(away) == NONE) {
            return STATE;
        }
        int filled = 0;
        for (int q = 0; q < office.size; q++) {
            int who = plan.at[q];
            if (isPerson(who)) {
                crew[who].work(q, office.year);
                filled++;
            }
        }
        return filled;
    }

    public int even() {
        if (crewSize == 0) {
            return NONE;
        }
        int most = crew[0].asked;
        int least = crew[0].asked;
        for (int i = 1; i < crewSize; i++) {
            most = Math.max(most, crew[i].asked);
            least = Math.min(least, crew[i].asked);
        }
        return most - least;
    }

    public int pay(int person) {
        if (person != NONE && !isPerson(person)) {
            return BAD;
        }
        if (person != NONE) {
            return wages(crew[person]);
        }
        int sum = 0;
        for (int i = 0; i < crewSize; i++) {
            sum += wages(crew[i]);
        }
        return sum;
    }

    public int first() {
        int found = NONE;
        int fewest = 0;
        for (int i = 0; i < crewSize; i++) {
            Person one = crew[i];
            for (int q = 0; q < office.size; q++) {
                if (one.isBarred(q) || !one.recalls(q, office.year)) {
                    continue;
                }
                int more = one.keeps() - one.since(q, office.year);
                if (found == NONE || more < fewest) {
                    found = 10 * i + q;
                    fewest = more;
                }
            }
        }
        return found;
    }

    public int judge(int away, int sheet) {
        if (!isCrewSet(away) || !isSheet(sheet)) {
            return BAD;
        }
        Sheet row = sheets[sheet];
        if (row.isMissing()) {
            return NOTHING;
        }
        if (row.size != office.size) {
            return BAD;
        }
        int free = everyone() & ~away;
        for (int q = 0; q < office.size; q++) {
            int who = row.cells[q];
            int wrong = wrongAt(q, who, free);
            if (wrong != NONE) {
                return wrong;
            }
            if (who != NONE) {
                free &= ~(1 << who);
            }
        }
        return NONE;
    }

    public int image() {
        for (int i = 0; i < crewSize; i++) {
            crew[i].save();
        }
        hasImage = true;
        imageYears = office.year;
        imageRule = rule;
        imageCrewSize = crewSize;
        return office.year;
    }

    public int back() {
        if (!hasImage) {
            return STATE;
        }
        // Who came since is not in the image, so all that it has stays.
        for (int i = 0; i < imageCrewSize; i++) {
            crew[i].restore();
        }
        office.year = imageYears;
        rule = imageRule;
        return office.year;
    }

    public int count(int what) {
        switch (what) {
            case 0: return office.size;
            case 1: return crewSize;
            case 2: return office.year;
            case 3: return textsSize;
            case 4: return reader.size;
            case 5: return rule;
            case 6: return Integer.bitCount(office.must);
            case 7: return lessonsOfAll();
            default: return BAD;
        }
    }

    // ---- the host

    public int sheet(int sheet, int sort, int n) {
        if (!isSheet(sheet) || sort < Sheet.MISSING || sort > Sheet.INTS) {
            return BAD;
        }
        if (sort == Sheet.MISSING) {
            sheets[sheet].become(sort, 0);
            return 1;
        }
        if (n > MOST_CELLS) {
            return BAD;
        }
        if (n < 0) {
            return SIZE_BELOW_0;
        }
        sheets[sheet].become(sort, n);
        return 1;
    }

    public int cell(int sheet, int i, int v) {
        if (!isSheet(sheet)) {
            return BAD;
        }
        Sheet row = sheets[sheet];
        if (row.isMissing()) {
            return NOTHING;
        }
        if (!row.has(i)) {
            return OUTSIDE;
        }
        row.put(i, v);
        return 1;
    }

    public int copy(int sheet, int i, int other, int j, int n) {
        if (!isSheet(sheet) || !isSheet(other)) {
            return BAD;
        }
        Sheet from = sheets[sheet];
        Sheet to = sheets[other];
        if (from.isMissing() || to.isMissing()) {
            return NOTHING;
        }
        if (from.sort != to.sort) {
            return OF_ANOTHER_SORT;
        }
        if (!from.hasRun(i, n) || !to.hasRun(j, n)) {
            return OUTSIDE;
        }
        System.arraycopy(from.cells, i, to.cells, j, n);
        return n;
    }

    public int people(int sheet, int sort, int from, int n) {
        if (!isSheet(sheet) || sort < Sheet.BYTES || sort > Sheet.INTS || n < 0 || n > 8) {
            return BAD;
        }
        Sheet row = sheets[sheet];
        if (!row.isMissing() && row.sort != sort) {
            return OF_ANOTHER_SORT;
        }
        if (row.isMissing()) {
            return NOTHING;
        }
        int came = 0;
        int at = from;
        for (int k = 0; k < n; k++) {
            if (!row.hasRun(at, 2)) {
                return OUTSIDE;
            }
            if (hire(row.cells[at], row.cells[at + 1]) >= 0) {
                came++;
            }
            at += 2;
        }
        return came;
    }

    public int taken(int person, int k) {
        if (k < 0 || k >= Person.KINDS) {
            return BAD;
        }
        if (!isPerson(person)) {
            return NOTHING;
        }
        return crew[person].isA(k) ? crew[person].number : OF_ANOTHER_SORT;
    }

    // ---- what the calls share

    private static boolean isFlag(int n) {
        return n == 0 || n == 1;
    }

    private static boolean isSheet(int n) {
        return n >= 0 && n < MOST_SHEETS;
    }

    private boolean isPerson(int n) {
        return n >= 0 && n < crewSize;
    }

    private boolean isCrewSet(int bits) {
        return bits >= 0 && bits <= everyone();
    }

    private int everyone() {
        return (1 << crewSize) - 1;
    }

    private int hire(int kind, int rest) {
        if (kind < 0 || kind >= Person.KINDS || rest < 0 || !office.has(rest / 100)) {
            return BAD;
        }
        if (crewSize >= MOST_PEOPLE) {
            return FULL;
        }
        crew[crewSize].become(kind, rest / 100, rest / 10 % 10, rest % 10);
        crewSize++;
        return crewSize - 1;
    }

    private int lessonsOfAll() {
        int sum = 0;
        for (int i = 0; i < crewSize; i++) {
            sum += crew[i].lessonsHad();
        }
        return sum;
    }

    private int valueOf(int part, Person one, int post) {
        one.describe(post, office, names);
        return texts[rule].valueOf(part, names);
    }

    private int wellOf(Person one, int post) {
        return bounded(valueOf(Text.WELL, one, post), 0, 99);
    }

    private int costOf(Person one, int post) {
        return bounded(valueOf(Text.COST, one, post), 1, 99);
    }

    private int wages(Person one) {
        return bounded(valueOf(Text.PAY, one, one.own), 0, 999) * one.counts(office);
    }

    private static int bounded(int n, int least, int most) {
        return Math.max(least, Math.min(most, n));
    }

    private void lookWhoCan() {
        cover.must = office.must;
        for (int q = 0; q < MOST_POSTS; q++) {
            cover.able[q] = 0;
        }
        for (int q = 0; q < office.size; q++) {
            for (int i = 0; i < crewSize; i++) {
                if (crew[i].can(q, office)) {
                    cover.able[q] |= 1 << i;
                }
            }
        }
        cover.spread();
    }

    /** Lays down the filling without some; answers what it comes to, or NONE. */
    private int planWithout(int away) {
        int there = everyone() & ~away;
        lookAtGains(there);
        plan.reckon(there, 0);
        return plan.layDown(there);
    }

    private void lookAtGains(int there) {
        plan.posts = office.size;
        plan.must = office.must;
        for (int q = 0; q < office.size; q++) {
            for (int i = 0; i < crewSize; i++) {
                boolean may = (there >> i & 1) == 1 && crew[i].can(q, office);
                plan.gain[q * MOST_PEOPLE + i] = may ? wellOf(crew[i], q) * office.value[q] : NONE;
            }
        }
    }

    private int firstThatBreaks(int many) {
        lookWhoCan();
        for (int away = 0; away <= everyone(); away++) {
            if (Integer.bitCount(away) == many && cover.tooFew(everyone() & ~away) != NONE) {
                return away;
            }
        }
        return NONE;
    }

    private int poorestThatFills(int many) {
        lookAtGains(everyone());
        plan.reckon(everyone(), many);
        int found = NONE;
        int least = 0;
        for (int away = 0; away <= everyone(); away++) {
            if (Integer.bitCount(away) != many) {
                continue;
            }
            int worth = plan.best[everyone() & ~away];
            if (worth != NONE && (found == NONE || worth < least)) {
                found = away;
                least = worth;
            }
        }
        return found;
    }

    private void offerLessons() {
        for (int i = 0; i < crewSize; i++) {
            for (int q = 0; q < office.size; q++) {
                if (!crew[i].isBarred(q) && !crew[i].can(q, office)) {
                    course.offer(10 * i + q, costOf(crew[i], q), cover.helpedBy(i, q));
                }
            }
        }
    }

    /** How likely just these are away: above a line below which stands 10 for each of the people. */
    private long tenthsOf(int away) {
        long product = 1;
        for (int i = 0; i < crewSize; i++) {
            product *= (away >> i & 1) == 1 ? crew[i].chance : 10 - crew[i].chance;
        }
        return product;
    }

    private static long commonDivisor(long a, long b) {
        // Euclid's steps for numbers up to ten millions are far fewer than a hundred.
        for (int n = 0; n < 100 && b != 0; n++) {
            long rest = a % b;
            a = b;
            b = rest;
        }
        return a;
    }

    /** What can't be so with one (or NONE) at a post while these are free still; NONE: nothing. */
    private int wrongAt(int post, int who, int free) {
        if (who == NONE) {
            return office.needs(post) ? 30 + post : NONE;
        }
        if (!isPerson(who) || (free >> who & 1) == 0) {
            return 10 + post;
        }
        return crew[who].can(post, office) ? NONE : 20 + post;
    }

    /** The posts, and the year that all reckon by. */
    private static final class Office {
        int size = 0;
        /** The posts that must be filled (bits). */
        int must = 0;
        final int[] value = new int[MOST_POSTS];
        int year = 0;

        boolean has(int post) {
            return post >= 0 && post < size;
        }

        boolean needs(int post) {
            return (must >> post & 1) == 1;
        }

        int open(boolean mustBeFilled, int worth) {
            if (size >= MOST_POSTS) {
                return FULL;
            }
            if (mustBeFilled) {
                must |= 1 << size;
            }
            value[size] = worth;
            size++;
            return size - 1;
        }
    }

    /** One of the people. Posts that are asked of are posts of the office. */
    private static final class Person {
        static final int KINDS = 6;
        private static final int HAND = 1;
        private static final int CLERK = 2;
        private static final int PORTER = 3;
        private static final int CHIEF = 4;
        private static final int NEW = 5;
        /** Of each kind the one it is under. */
        private static final int[] UNDER = {-1, 0, 0, 1, 2, 0};
        private static final int NEVER = -1;
        private static final int YEARS_SINCE_NEVER = 99;

        int kind = 0;
        int own = 0;
        int number = 0;
        int chance = 0;
        int asked = 0;
        /** The year in which each post was taught or, being taught, done last. */
        final int[] last = new int[MOST_POSTS];
        /** The posts from which it is barred (bits). */
        private int bars = 0;

        private int savedAsked = 0;
        private final int[] savedLast = new int[MOST_POSTS];
        private int savedBars = 0;

        Person() {
            Arrays.fill(last, NEVER);
            Arrays.fill(savedLast, NEVER);
        }

        void become(int newKind, int newOwn, int newNumber, int newChance) {
            kind = newKind;
            own = newOwn;
            number = newNumber;
            chance = newChance;
        }

        boolean isA(int k) {
            int at = kind;
            for (int n = 0; n < KINDS && at >= 0; n++) {
                if (at == k) {
                    return true;
                }
                at = UNDER[at];
            }
            return false;
        }

        int keeps() {
            int years = isA(CLERK) ? 2 + number : 2;
            if (kind == PORTER) {
                return years + 1;
            }
            return kind == NEW ? years - 1 : years;
        }

        boolean isBarred(int post) {
            return (bars >> post & 1) == 1;
        }

        void setBar(int post, boolean is) {
            bars = is ? bars | 1 << post : bars & ~(1 << post);
        }

        int since(int post, int year) {
            return last[post] == NEVER ? YEARS_SINCE_NEVER : year - last[post];
        }

        boolean recalls(int post, int year) {
            return last[post] != NEVER && year - last[post] <= keeps();
        }

        boolean can(int post, Office office) {
            if (isBarred(post)) {
                return false;
            }
            if (post == own || recalls(post, office.year)) {
                return true;
            }
            if (isA(HAND) && Math.abs(post - own) == 1) {
                return true;
            }
            if (kind == PORTER && !office.needs(post)) {
                return true;
            }
            return kind == CHIEF && office.value[post] > 50;
        }

        int counts(Office office) {
            int able = 0;
            for (int q = 0; q < office.size; q++) {
                if (can(q, office)) {
                    able++;
                }
            }
            switch (kind) {
                case HAND: return Math.min(able, 3);
                case PORTER: return Math.min(able, 3) + 1;
                case CHIEF: return 2 * able;
                case NEW: return (able + 1) / 2;
                default: return able;
            }
        }

        int lessonsHad() {
            int n = 0;
            for (int q = 0; q < MOST_POSTS; q++) {
                if (last[q] != NEVER) {
                    n++;
                }
            }
            return n;
        }

        void work(int post, int year) {
            if (last[post] != NEVER) {
                last[post] = year;
            }
            if (post != own) {
                asked++;
            }
        }

        /** Writes the values of a text's names, in the order of Text.WORDS. */
        void describe(int post, Office office, int[] names) {
            if (names.length < Text.NAMES) {
                return;
            }
            names[0] = post == own ? 1 : 0;
            names[1] = number;
            names[2] = since(post, office.year);
            names[3] = office.needs(post) ? 1 : 0;
            names[4] = office.value[post];
            names[5] = lessonsHad();
        }

        void save() {
            savedAsked = asked;
            savedBars = bars;
            System.arraycopy(last, 0, savedLast, 0, MOST_POSTS);
        }

        void restore() {
            asked = savedAsked;
            bars = savedBars;
            System.arraycopy(savedLast, 0, last, 0, MOST_POSTS);
        }
    }

    /** What was read of a text: steps that push a number or a name's value, or join what was pushed. */
    private static final class Text {
        static final int WELL = 0;
        static final int COST = 1;
        static final int PAY = 2;
        static final int PARTS = 3;
        static final int NAMES = 6;
        /** The names, then the keys, in the order of their tokens. */
        static final String WORDS = "own number years must value taught well cost pay or and not ";

        /** Steps below this push themselves: a number has four digits at most. */
        static final int NAME_0 = 10000;
        static final int NOT = 20000;
        static final int NEGATE = 20001;
        static final int OR = 20002;
        static final int AND = 20003;
        static final int LESS = 20004;
        static final int LIKE = 20005;
        static final int PLUS = 20006;
        static final int MINUS = 20007;
        static final int TIMES = 20008;

        /** At most five wait for their right side in each of six levels of brackets. */
        private static final int MOST_WAITING = 40;

        private final int[] steps = new int[MOST_BYTES];
        private int size = 0;
        private final int[] ends = new int[PARTS];
        private final int[] stack = new int[MOST_WAITING];

        void clear() {
            size = 0;
        }

        void add(int step) {
            if (size < steps.length) {
                steps[size] = step;
                size++;
            }
        }

        void endPart(int part) {
            if (part >= 0 && part < PARTS) {
                ends[part] = size;
            }
        }

        int valueOf(int part, int[] names) {
            if (part < 0 || part >= PARTS) {
                return 0;
            }
            int top = 0;
            for (int i = part == 0 ? 0 : ends[part - 1]; i < ends[part]; i++) {
                int step = steps[i];
                if (step < NOT && top < MOST_WAITING) {
                    stack[top] = pushed(step, names);
                    top++;
                } else if (step == NOT && top >= 1) {
                    stack[top - 1] = stack[top - 1] == 0 ? 1 : 0;
                } else if (step == NEGATE && top >= 1) {
                    stack[top - 1] = -stack[top - 1];
                } else if (step > NEGATE && top >= 2) {
                    top--;
                    stack[top - 1] = joined(step, stack[top - 1], stack[top]);
                }
            }
            return stack[0];
        }

        private static int pushed(int step, int[] names) {
            int name = step - NAME_0;
            return name >= 0 && name < names.length ? names[name] : step;
        }

        private static int joined(int step, int left, int right) {
            switch (step) {
                case OR: return left != 0 || right != 0 ? 1 : 0;
                case AND: return left != 0 && right != 0 ? 1 : 0;
                case LESS: return left < right ? 1 : 0;
                case LIKE: return left == right ? 1 : 0;
                case PLUS: return left + right;
                case MINUS: return left - right;
                default: return left * right;
            }
        }
    }

    /** The tape, and the reading of a text from it. */
    private static final class Reader {
        private static final int MOST_OPEN = 5;
        private static final int MOST_DIGITS = 4;

        // A word's token is its place in Text.WORDS, a sign's its own byte; these lie between.
        private static final int WORD_WELL = 6;
        private static final int WORD_OR = 9;
        private static final int WORD_AND = 10;
        private static final int WORD_NOT = 11;
        private static final int NUMBER = 12;
        private static final int END = 13;
        private static final int NO_TOKEN = 14;

        int size = 0;
        private final int[] tape = new int[MOST_BYTES];

        private Text target;
        private int next = 0;
        private int token = END;
        private int start = 0;
        private int number = 0;
        private int fault = NONE;

        Reader(Text first) {
            target = first;
        }

        void take(int oneByte) {
            if (size < MOST_BYTES) {
                tape[size] = oneByte;
                size++;
            }
        }

        /** Reads the tape, which is empty then, into a text; answers the place of its fault, or NONE. */
        int read(Text into) {
            target = into;
            target.clear();
            next = 0;
            fault = NONE;
            advance();
            for (int part = 0; part < Text.PARTS; part++) {
                expect(WORD_WELL + part);
                readOr(0);
                target.endPart(part);
                expect(';');
            }
            if (token != END) {
                refuse();
            }
            size = 0;
            return fault;
        }

        /** With a fault the text is at its end, so that all that is open ends. */
        private void refuse() {
            if (fault == NONE) {
                fault = start;
            }
            token = END;
            next = size;
        }

        private void expect(int wanted) {
            if (token == wanted) {
                advance();
            } else {
                refuse();
            }
        }

        private void readOr(int open) {
            readAnd(open);
            for (int n = 0; n < MOST_BYTES && token == WORD_OR; n++) {
                advance();
                readAnd(open);
                target.add(Text.OR);
            }
        }

        private void readAnd(int open) {
            readNot(open);
            for (int n = 0; n < MOST_BYTES && token == WORD_AND; n++) {
                advance();
                readNot(open);
                target.add(Text.AND);
            }
        }

        private void readNot(int open) {
            if (token == WORD_NOT) {
                if (opens(open)) {
                    readNot(open + 1);
                    target.add(Text.NOT);
                }
                return;
            }
            readSum(open);
            if (token == '<' || token == '=') {
                int step = token == '<' ? Text.LESS : Text.LIKE;
                advance();
                readSum(open);
                target.add(step);
            }
        }

        private void readSum(int open) {
            readTerm(open);
            for (int n = 0; n < MOST_BYTES && (token == '+' || token == '-'); n++) {
                int step = token == '+' ? Text.PLUS : Text.MINUS;
                advance();
                readTerm(open);
                target.add(step);
            }
        }

        private void readTerm(int open) {
            readOne(open);
            for (int n = 0; n < MOST_BYTES && token == '*'; n++) {
                advance();
                readOne(open);
                target.add(Text.TIMES);
            }
        }

        private void readOne(int open) {
            if (token == NUMBER) {
                target.add(number);
                advance();
            } else if (token >= 0 && token < Text.NAMES) {
                target.add(Text.NAME_0 + token);
                advance();
            } else if (token == '-') {
                if (opens(open)) {
                    readOne(open + 1);
                    target.add(Text.NEGATE);
                }
            } else if (token == '(') {
                if (opens(open)) {
                    readOr(open + 1);
                    expect(')');
                }
            } else {
                refuse();
            }
        }

        /** Goes past what opens one more, unless too many are open. */
        private boolean opens(int open) {
            if (open >= MOST_OPEN) {
                refuse();
                return false;
            }
            advance();
            return true;
        }

        private void advance() {
            while (next < size && (tape[next] == ' ' || tape[next] == '\n')) {
                next++;
            }
            start = next;
            if (next >= size) {
                token = END;
            } else if (isLetter(tape[next])) {
                takeWord();
            } else if (isDigit(tape[next])) {
                takeNumber();
            } else {
                token = isSign(tape[next]) ? tape[next] : NO_TOKEN;
                next++;
            }
        }

        private void takeWord() {
            while (next < size && isLetter(tape[next])) {
                next++;
            }
            token = wordBetween(start, next);
        }

        private void takeNumber() {
            number = 0;
            while (next < size && isDigit(tape[next])) {
                if (next - start < MOST_DIGITS) {
                    number = number * 10 + (tape[next] - '0');
                }
                next++;
            }
            token = next - start > MOST_DIGITS ? NO_TOKEN : NUMBER;
        }

        private int wordBetween(int from, int to) {
            int word = 0;
            int at = from;
            boolean like = true;
            for (int i = 0; i < Text.WORDS.length(); i++) {
                char c = Text.WORDS.charAt(i);
                if (c != ' ') {
                    like = like && at < to && at < size && tape[at] == c;
                    at++;
                } else if (like && at == to) {
                    return word;
                } else {
                    word++;
                    at = from;
                    like = true;
                }
            }
            return NO_TOKEN;
        }

        private static boolean isLetter(int c) {
            return c >= 'a' && c <= 'z';
        }

        private static boolean isDigit(int c) {
            return c >= '0' && c <= '9';
        }

        private static boolean isSign(int c) {
            return c == '(' || c == ')' || c == ';' || c == '+' || c == '-' || c == '*' || c == '<' || c == '=';
        }
    }

    /**
     * Who can do some of each set of posts. By Hall's theorem all posts that must be filled can be
     * if, and only if, no set of them has fewer people than posts.
     */
    private static final class Cover {
        private static final int SETS = 1 << MOST_POSTS;

        int must = 0;
        /** Of each post who can do it (bits). */
        final int[] able = new int[MOST_POSTS];
        /** Of each set of posts who can do some of it (bits). */
        private final int[] reach = new int[SETS];

        void spread() {
            for (int q = 0; q < MOST_POSTS; q++) {
                int alone = 1 << q;
                for (int lower = 0; lower < alone; lower++) {
                    reach[alone + lower] = reach[lower] | able[q];
                }
            }
        }

        int tooFew(int there) {
            int found = NONE;
            int fewest = MOST_POSTS + 1;
            for (int set = 1; set <= must && set < SETS; set++) {
                if ((set & ~must) != 0) {
                    continue;
                }
                int posts = Integer.bitCount(set);
                if (posts < fewest && Integer.bitCount(reach[set] & there) < posts) {
                    found = set;
                    fewest = posts;
                }
            }
            return found;
        }

        /** Whether any so many may be away; there are none such if people are fewer. */
        boolean bears(int many, int people) {
            return many > people || lacking(many, 1) == 0;
        }

        /**
         * The sets of posts (a bit each) that lack so many people or more, if those who are away
         * are the worst so many: as many of a set's own people as there are.
         */
        long lacking(int many, int least) {
            long sets = 0;
            for (int set = 1; set <= must && set < SETS; set++) {
                if ((set & ~must) != 0) {
                    continue;
                }
                if (Integer.bitCount(set) + many - Integer.bitCount(reach[set]) >= least) {
                    sets |= 1L << set;
                }
            }
            return sets;
        }

        /** The sets of posts (a bit each) that have one more who can do some if one learns a post. */
        long helpedBy(int person, int post) {
            long sets = 0;
            for (int set = 1; set < SETS; set++) {
                if ((set >> post & 1) == 1 && (reach[set] >> person & 1) == 0) {
                    sets |= 1L << set;
                }
            }
            return sets;
        }
    }

    /** The best filling: for each set of people who are free, the most that the posts from one on come to. */
    private static final class Plan {
        private static final int SETS = 1 << MOST_PEOPLE;

        int posts = 0;
        int must = 0;
        /** What a post comes to with one at it, by posts, then people; NONE: it can't be. */
        final int[] gain = new int[MOST_POSTS * MOST_PEOPLE];
        final int[] best = new int[(MOST_POSTS + 1) * SETS];
        final int[] at = new int[MOST_POSTS];

        /** Reckons all that fillings need in which no more than some of those there are missing. */
        void reckon(int there, int missing) {
            for (int q = posts; q >= 0; q--) {
                for (int free = 0; free <= there && free < SETS; free++) {
                    if ((free & ~there) == 0 && Integer.bitCount(there ^ free) <= missing + q) {
                        best[q * SETS + free] = q == posts ? 0 : most(q, free);
                    }
                }
            }
        }

        private int most(int post, int free) {
            int found = worthWith(post, free, NONE);
            for (int i = 0; i < MOST_PEOPLE; i++) {
                if ((free >> i & 1) == 1) {
                    found = Math.max(found, worthWith(post, free, i));
                }
            }
            return found;
        }

        /** The most that the posts from one on come to with one of the free, or NONE, at that one. */
        private int worthWith(int post, int free, int who) {
            int row = (post + 1) * SETS;
            if (who == NONE) {
                return (must >> post & 1) == 1 ? NONE : best[row + free];
            }
            int here = gain[post * MOST_PEOPLE + who];
            int behind = best[row + (free & ~(1 << who))];
            return here == NONE || behind == NONE ? NONE : here + behind;
        }

        /** Puts people at the posts, of like fillings as in the first; answers its worth, or NONE. */
        int layDown(int there) {
            int worth = best[there];
            if (worth == NONE) {
                return NONE;
            }
            int free = there;
            for (int q = 0; q < posts; q++) {
                at[q] = firstAt(q, free);
                if (at[q] != NONE) {
                    free &= ~(1 << at[q]);
                }
            }
            return worth;
        }

        private int firstAt(int post, int free) {
            int worth = best[post * SETS + free];
            if (worthWith(post, free, NONE) == worth) {
                return NONE;
            }
            for (int i = 0; i < MOST_PEOPLE; i++) {
                if ((free >> i & 1) == 1 && worthWith(post, free, i) == worth) {
                    return i;
                }
            }
            return NONE;
        }
    }

    /** The lessons that could be given, in their order, and the fewest that are enough. */
    private static final class Course {
        private static final int MOST = MOST_PEOPLE * MOST_POSTS;

        private int size = 0;
        private final int[] lesson = new int[MOST];
        private final int[] cost = new int[MOST];
        private final long[] helps = new long[MOST];

        int found = 0;
        int price = 0;
        int which = 0;

        /** Until something is sought no lesson is needed, and none costs. */
        void clear() {
            size = 0;
            found = 0;
            price = 0;
            which = 0;
        }

        void offer(int oneAndPost, int itsCost, long setsHelped) {
            if (size < MOST) {
                lesson[size] = oneAndPost;
                cost[size] = itsCost;
                helps[size] = setsHelped;
                size++;
            }
        }

        /** Seeks the fewest for sets that lack one or more, two or more, three or more. */
        void seek(long lackOne, long lackTwo, long lackThree) {
            found = NONE;
            if (lackThree == 0 && lackTwo == 0) {
                seekOne(lackOne);
            }
            if (lackThree == 0 && found == NONE) {
                seekTwo(lackOne, lackTwo);
            }
        }

        private void seekOne(long lackOne) {
            for (int i = 0; i < size; i++) {
                if ((lackOne & ~helps[i]) == 0) {
                    keepCheaper(1, cost[i], lesson[i]);
                }
            }
        }

        private void seekTwo(long lackOne, long lackTwo) {
            for (int i = 0; i < size; i++) {
                for (int j = i + 1; j < size; j++) {
                    // Two lessons of one person bring a set one more at most.
                    long twice = lesson[i] / 10 == lesson[j] / 10 ? 0 : helps[i] & helps[j];
                    if ((lackOne & ~(helps[i] | helps[j])) == 0 && (lackTwo & ~twice) == 0) {
                        keepCheaper(2, cost[i] + cost[j], 100 * lesson[i] + lesson[j]);
                    }
                }
            }
        }

        private void keepCheaper(int many, int itsPrice, int lessons) {
            if (found == NONE || itsPrice < price) {
                found = many;
                price = itsPrice;
                which = lessons;
            }
        }
    }

    /** A row of numbers; its cells are kept as the sort would hold them. */
    private static final class Sheet {
        static final int MISSING = -1;
        static final int BYTES = 0;
        static final int SHORTS = 1;
        static final int INTS = 2;

        int sort = MISSING;
        int size = 0;
        final int[] cells = new int[MOST_CELLS];

        boolean isMissing() {
            return sort == MISSING;
        }

        void become(int newSort, int newSize) {
            sort = newSort;
            size = newSize;
            Arrays.fill(cells, 0);
        }

        boolean has(int i) {
            return i >= 0 && i < size;
        }

        boolean hasRun(int i, int n) {
            return i >= 0 && n >= 0 && n <= size && i <= size - n;
        }

        void put(int i, int v) {
            if (has(i)) {
                cells[i] = sort == BYTES ? (byte) v : sort == SHORTS ? (short) v : v;
            }
        }
    }
}
