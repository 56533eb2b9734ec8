import java.math.BigInteger;
import java.util.Arrays;
import java.util.Random;

/**
 * What the document says of one call by means of others, told by the public face alone: no oracle
 * has a part in it. Each law looks at objects made by seeds; one that changes its object, or needs
 * many calls, makes it anew, so that none has more than its 512 calls.
 */
public final class LawsTest {
    private static final int SEEDS = 400;
    private static final int NONE = PostsFilled.NONE, STATE = PostsFilled.STATE;
    private static final String[] RULES = {
        "well own*9+number;cost 9-number;pay value;",
        "well 9-taught*3;cost 1+(value<50)*2+must;pay 3+taught;",
        "well 120-value;cost years;pay 0-1;",
        "well 4;cost 6;pay number*number*99;",
    };

    private final Due due;
    private final long seed;
    /** No call tells a post's value, so it is kept as it was made. */
    private final int[] values = new int[6];

    private LawsTest(Due due, long seed) {
        this.due = due;
        this.seed = seed;
    }

    private PostsFilled made() {
        Random random = new Random(seed);
        PostsFilled x = new PostsFilled();
        int posts = random.nextInt(7);
        for (int q = 0; q < posts; q++) {
            int must = random.nextInt(4) > 0 ? 1 : 0;
            values[q] = random.nextInt(random.nextBoolean() ? 100 : 3);
            x.post(must, values[q]);
        }
        int people = random.nextInt(8);
        for (int p = 0; p < people && posts > 0; p++) {
            x.person(random.nextInt(6), 100 * random.nextInt(posts) + random.nextInt(100));
        }
        if (posts > 0 && x.count(1) > 0) {
            live(x, random, random.nextInt(40));
        }
        if (random.nextBoolean()) {
            x.force(Due.text(x, RULES[random.nextInt(RULES.length)]));
        }
        return x;
    }

    private static void live(PostsFilled x, Random random, int steps) {
        for (int n = 0; n < steps; n++) {
            int p = random.nextInt(x.count(1));
            int q = random.nextInt(x.count(0));
            int pick = random.nextInt(10);
            if (pick < 6) {
                x.teach(p, q);
            } else if (pick < 8) {
                x.bar(p, q, random.nextInt(3) == 0 ? 0 : 1);
            } else if (pick < 9) {
                x.years(1);
            } else {
                x.done(0);
            }
        }
    }

    private void law(String what, long got, long want) {
        due.is("seed " + seed + ", " + what, got, want);
    }

    private void law(String what, boolean holds) {
        law(what, holds ? 1 : 0, 1);
    }

    // ---- 11, 12, 18, 22: a filling, too few, done, judge

    private void fillingIsJudgedWell() {
        Random random = new Random(seed + 1);
        int away = random.nextInt(1 << made().count(1));
        PostsFilled x = made();
        int posts = x.count(0);
        int worth = x.fill(away, NONE);
        law("12: too few, or a filling", (x.few(away) == NONE) == (worth != STATE));
        if (worth == STATE) {
            law("18: nothing can be done", x.done(away), STATE);
            return;
        }
        x.sheet(0, random.nextInt(3), posts);
        int filled = 0;
        for (int q = 0; q < posts; q++) {
            int who = x.fill(away, q);
            x.cell(0, q, who);
            filled += who == NONE ? 0 : 1;
        }
        law("22: a filling can be so", x.judge(away, 0), NONE);
        int[] asked = new int[x.count(1)];
        for (int p = 0; p < asked.length; p++) {
            asked[p] = x.told(p, 0, 6);
        }
        for (int q = 0; q < posts; q++) {
            int who = x.fill(away, q);
            if (who != NONE && x.told(who, q, 1) != q) {
                asked[who]++;
            }
        }
        law("18: how many are filled", x.done(away), filled);
        for (int p = 0; p < asked.length; p++) {
            law("18: asked", x.told(p, 0, 6), asked[p]);
        }
    }

    /** No row of people that can be so comes to more than the filling, or comes before it of like ones. */
    private void noOtherIsBetter() {
        PostsFilled x = made();
        Random random = new Random(seed + 2);
        int away = random.nextInt(1 << x.count(1)) & random.nextInt(128);
        int posts = x.count(0);
        int best = x.fill(away, NONE);
        int[] filling = new int[posts];
        int worth = 0;
        for (int q = 0; q < posts && best != STATE; q++) {
            filling[q] = x.fill(away, q);
            worth += worthOf(x, filling[q], q);
        }
        if (best != STATE) {
            law("11: what it comes to", best, worth);
        }
        for (int n = 0; n < 12; n++) {
            PostsFilled y = made();
            int[] other = someRow(y, random, away);
            Due.row(y, 0, 2, other);
            if (y.judge(away, 0) != NONE) {
                continue;
            }
            int itsWorth = 0;
            for (int q = 0; q < posts; q++) {
                itsWorth += worthOf(y, other[q], q);
            }
            law("11: if another can be so, there is one", best != STATE);
            law("11: no other comes to more", itsWorth <= best);
            law("11: of like ones the first", itsWorth < best || Arrays.compare(filling, other) <= 0);
        }
    }

    private int worthOf(PostsFilled x, int who, int post) {
        return who == NONE ? 0 : x.told(who, post, 8) * values[post];
    }

    private static int[] someRow(PostsFilled x, Random random, int away) {
        int[] row = new int[x.count(0)];
        int used = away;
        for (int q = 0; q < row.length; q++) {
            row[q] = NONE;
            for (int tries = 0; tries < 5 && row[q] == NONE; tries++) {
                int who = random.nextInt(x.count(1) + 1) - 1;
                if (who != NONE && (used >> who & 1) == 0 && x.told(who, q, 7) == 1) {
                    row[q] = who;
                    used |= 1 << who;
                }
            }
        }
        return row;
    }

    // ---- 13 to 17: holds, worst, lessons, ring, sure

    private void holdsAndWorst() {
        PostsFilled x = made();
        int people = x.count(1);
        for (int many = 0; many <= 7; many++) {
            int breaks = NONE;
            int lack = NONE;
            int least = Integer.MAX_VALUE;
            PostsFilled y = made();
            for (int away = 0; away < 1 << people; away++) {
                if (Integer.bitCount(away) != many) {
                    continue;
                }
                int worth = y.fill(away, NONE);
                if (worth == STATE && breaks == NONE) {
                    breaks = away;
                } else if (worth != STATE && worth < least) {
                    least = worth;
                    lack = away;
                }
            }
            law("13: holds " + many, x.holds(many), breaks == NONE ? 1 : 0);
            law("14: worst " + many, x.worst(many, 0), breaks);
            law("14: lack " + many, x.worst(many, 1), lack);
        }
    }

    /** Teaches what was named; then any so many may be away. */
    private void lessonsAreEnough() {
        for (int many = 0; many <= 2; many++) {
            PostsFilled x = made();
            int lessons = x.lessons(many, 0);
            int cost = x.lessons(many, 1);
            int which = x.lessons(many, 2);
            law("15: no lesson, if it holds", (lessons == 0) == (x.holds(many) == 1));
            if (lessons <= 0) {
                law("15: cost without lessons", cost, lessons);
                law("15: which without lessons", which, lessons);
                continue;
            }
            int first = lessons == 2 ? which / 100 : which;
            int second = which % 100;
            int price = x.told(first / 10, first % 10, 9);
            if (lessons == 2) {
                price += x.told(second / 10, second % 10, 9);
                law("15: the first lesson ahead", first < second);
            }
            law("15: cost", cost, price);
            law("15: it could not do it", x.told(first / 10, first % 10, 7), 0);
            law("15: it could not do the second", x.told(second / 10, second % 10, 7), 0);
            x.teach(first / 10, first % 10);
            x.teach(second / 10, second % 10);
            law("15: the lessons are enough for " + many, x.holds(many), 1);
        }
    }

    /** Tries each lesson by itself, laid back by an image: none is enough, or none that is comes before. */
    private void noLessonIsMissed() {
        int many = (int) (seed % 3);
        PostsFilled x = made();
        int lessons = x.lessons(many, 0);
        int cost = x.lessons(many, 1);
        int which = x.lessons(many, 2);
        x.image();
        for (int p = 0; p < x.count(1); p++) {
            for (int q = 0; q < x.count(0); q++) {
                int price = x.told(p, q, 9);
                if (x.told(p, q, 7) == 1 || x.teach(p, q) < 0) {
                    continue;
                }
                int one = 10 * p + q;
                boolean before = lessons > 1 || lessons == NONE || price < cost || (price == cost && one < which);
                law("15: lesson " + one + " was missed", lessons != 0 && before && x.holds(many) == 1 ? 1 : 0, 0);
                x.back();
            }
        }
    }

    private void noPairIsMissed() {
        int many = (int) (seed % 3);
        PostsFilled told = made();
        int lessons = told.lessons(many, 0);
        int cost = told.lessons(many, 1);
        int which = told.lessons(many, 2);
        if (lessons == 0 || lessons == 1) {
            return;
        }
        int people = told.count(1);
        int posts = told.count(0);
        for (int a = 0; a < people * posts; a++) {
            int one = 10 * (a / posts) + a % posts;
            PostsFilled x = made();
            int price = x.told(one / 10, one % 10, 9);
            if (x.told(one / 10, one % 10, 7) == 1) {
                continue;
            }
            for (int b = a + 1; b < people * posts; b++) {
                int two = 10 * (b / posts) + b % posts;
                int both = price + x.told(two / 10, two % 10, 9);
                boolean before = lessons == NONE || both < cost || (both == cost && 100 * one + two < which);
                if (before && x.told(two / 10, two % 10, 7) == 0 && pairIsEnough(many, one, two)) {
                    law("15: lessons " + one + ", " + two + " were missed", 1, 0);
                }
            }
        }
    }

    private boolean pairIsEnough(int many, int one, int two) {
        PostsFilled x = made();
        return x.teach(one / 10, one % 10) > 0 && x.teach(two / 10, two % 10) > 0 && x.holds(many) == 1;
    }

    /** Each is taught the own post of the next one, where it may be; then numbers are tried one by one. */
    private void ringIsTaught() {
        PostsFilled x = made();
        int ring = x.ring();
        int people = x.count(1);
        for (int p = 0; p < people; p++) {
            x.teach(p, x.told((p + 1) % people, 0, 1));
        }
        int most = NONE;
        while (most < people && x.holds(most + 1) == 1) {
            most++;
        }
        law("16: a ring", ring, most);
    }

    private void sureByChances() {
        PostsFilled x = made();
        long above = x.sure(0);
        long below = x.sure(1);
        double[] chance = new double[x.count(1)];
        for (int p = 0; p < chance.length; p++) {
            chance[p] = x.told(p, 0, 3) / 10.0;
        }
        double likely = 0;
        for (int away = 0; away < 1 << chance.length; away++) {
            double part = 1;
            for (int p = 0; p < chance.length; p++) {
                part *= (away >> p & 1) == 1 ? chance[p] : 1 - chance[p];
            }
            likely += x.few(away) == NONE ? part : 0;
        }
        law("17: in lowest terms", BigInteger.valueOf(above).gcd(BigInteger.valueOf(below)).intValue(), 1);
        law("17: how likely", Math.abs((double) above / below - likely) < 1e-9);
    }

    // ---- 7, 19, 20, 21: told, even, pay, first

    private void countsByKind() {
        PostsFilled x = made();
        int most = Integer.MIN_VALUE;
        int least = Integer.MAX_VALUE;
        int sum = 0;
        for (int p = 0; p < x.count(1); p++) {
            int can = 0;
            for (int q = 0; q < x.count(0); q++) {
                can += x.told(p, q, 7);
            }
            int[] counts = {can, Math.min(3, can), can, Math.min(3, can) + 1, can * 2, can - can / 2};
            law("7: counts", x.told(p, 0, 5), counts[x.told(p, 0, 0)]);
            most = Math.max(most, x.told(p, 0, 6));
            least = Math.min(least, x.told(p, 0, 6));
            sum += x.pay(p);
        }
        law("19: even", x.even(), x.count(1) == 0 ? NONE : most - least);
        law("20: pay of all", x.pay(NONE), sum);
    }

    /** All that was taught is forgotten in the order in which first() names it. */
    private void firstIsForgottenFirst() {
        PostsFilled x = made();
        for (int n = 0; n < 20; n++) {
            int named = x.first();
            x.years(1);
            int then = x.first();
            if (named == NONE) {
                law("21: nothing comes back", then, NONE);
            } else if (then != named && canByTeachingAlone(x, named / 10)) {
                law("21: what was first is lost", x.told(named / 10, named % 10, 7), 0);
            }
        }
        law("21: after 20 years nothing is kept", x.first(), NONE);
    }

    private static boolean canByTeachingAlone(PostsFilled x, int person) {
        int kind = x.told(person, 0, 0);
        return kind == 0 || kind == 2 || kind == 5;
    }

    // ---- 23, 24: an image

    private void backIsAsBefore() {
        PostsFilled x = made();
        PostsFilled y = made();
        x.image();
        if (x.count(1) > 0) {
            live(x, new Random(seed + 3), 30);
        }
        x.force(0);
        x.years(2);
        x.back();
        for (int what = 0; what < 8; what++) {
            law("24: count " + what, x.count(what), y.count(what));
        }
        for (int p = 0; p < x.count(1); p++) {
            for (int q = 0; q < x.count(0); q++) {
                for (int what = 5; what < 10; what++) {
                    law("24: told " + what, x.told(p, q, what), y.told(p, q, what));
                }
            }
        }
        law("24: first", x.first(), y.first());
        law("24: a filling", x.fill(0, NONE), y.fill(0, NONE));
    }

    public static void main(String[] args) {
        Due due = new Due("LawsTest");
        int seeds = args.length > 0 ? Integer.parseInt(args[0]) : SEEDS;
        long first = args.length > 1 ? Long.parseLong(args[1]) : 1;
        for (long seed = first; seed < first + seeds; seed++) {
            LawsTest laws = new LawsTest(due, seed);
            laws.fillingIsJudgedWell();
            laws.noOtherIsBetter();
            laws.holdsAndWorst();
            laws.lessonsAreEnough();
            laws.noLessonIsMissed();
            laws.noPairIsMissed();
            laws.ringIsTaught();
            laws.sureByChances();
            laws.countsByKind();
            laws.firstIsForgottenFirst();
            laws.backIsAsBefore();
        }
        due.end();
    }
}
