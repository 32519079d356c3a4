import java.util.ArrayList;
import java.util.HashMap;
import java.util.List;
import java.util.Map;
import java.util.Random;

/**
 * Random runs against a slow till that follows the document's words: it searches over sets of
 * units (not over counts of articles), by totals (not by savings), and sorts the lists of uses.
 */
public final class ModelTest {
    private static final int RUNS = 1500;
    private static final int CALLS = 120;
    /** The document says nothing of an object behind its 512th call. */
    private static final int MOST_CALLS = 512;
    private static final int LOOK_AT_ALL = 14;
    private static final int CALLS_OF_LOOK = 43;
    private static int wrong = 0;
    private static long calls = 0;
    private static final int[] answers = new int[15];
    private static final int[] refusals = new int[15];
    private static final int[] plansWithUses = new int[6];
    private static int fullOfReceipts = 0;

    public static void main(String[] args) {
        for (int seed = 0; seed < RUNS && wrong == 0; seed++) {
            compareRun(seed);
        }
        // A run that never answers, or never refuses, would not test much.
        for (int call = 0; call <= LOOK_AT_ALL; call++) {
            if (answers[call] < 100 || refusals[call] < 10 && call != LOOK_AT_ALL) {
                wrong++;
                System.out.println("call " + call + " answered " + answers[call] + " times, refused "
                        + refusals[call] + " times");
            }
        }
        for (int uses = 0; uses < 4; uses++) {
            if (plansWithUses[uses] < 100) {
                wrong++;
                System.out.println("few plans with " + uses + " uses: " + plansWithUses[uses]);
            }
        }
        if (fullOfReceipts < 20) {
            wrong++;
            System.out.println("few runs with twelve receipts: " + fullOfReceipts);
        }
        System.out.println(wrong == 0 ? calls + " calls are as the model's" : "not as the model");
        if (wrong != 0) {
            System.exit(1);
        }
    }

    private static void compareRun(int seed) {
        Random random = new Random(seed);
        PromotionTill till = new PromotionTill();
        Model model = new Model();
        StringBuilder told = new StringBuilder();
        int articles = 1 + random.nextInt(12);
        int prices = random.nextInt(3);
        boolean isLong = seed % 20 == 0;
        int used = 0;
        for (int k = 0; k < CALLS || isLong; k++) {
            boolean hurried = isLong && k >= 45 && random.nextInt(3) > 0;
            int[] call = hurried ? hurriedCall(random, articles, prices, model.units.isEmpty())
                    : randomCall(random, articles, prices, k);
            used += call[0] == LOOK_AT_ALL ? CALLS_OF_LOOK : 1;
            if (used > MOST_CALLS) {
                break;
            }
            String want = answer(() -> model.call(call));
            String got = answer(() -> call(till, call));
            told.append(java.util.Arrays.toString(call)).append(" -> ").append(got).append('\n');
            calls++;
            if (want.matches("-?\\d+")) {
                answers[call[0]]++;
            } else {
                refusals[call[0]]++;
            }
            if (!got.equals(want)) {
                wrong++;
                System.out.println("seed " + seed + ", due is " + want + ":\n" + told);
                return;
            }
        }
        fullOfReceipts += model.bills.size() == 12 ? 1 : 0;
    }

    /** Makes for many receipts with different terms. */
    private static int[] hurriedCall(Random r, int articles, int prices, boolean empty) {
        if (empty && r.nextInt(3) > 0) {
            return settingCall(r, articles, prices);
        }
        int dice = r.nextInt(10);
        if (dice < 5) {
            return new int[] {4, r.nextInt(articles)};
        }
        if (dice < 7) {
            return new int[] {10, 2000000};
        }
        if (dice < 8) {
            return new int[] {13, r.nextInt(13), r.nextInt(10), r.nextInt(4)};
        }
        return dice < 9 ? new int[] {12, r.nextInt(13), r.nextInt(4)}
                : new int[] {11, r.nextInt(13), r.nextInt(5)};
    }

    private interface Answer {
        int get();
    }

    private static String answer(Answer answer) {
        try {
            return String.valueOf(answer.get());
        } catch (RuntimeException e) {
            return e.getClass().getName();
        }
    }

    private static int call(PromotionTill t, int[] c) {
        switch (c[0]) {
            case 0: t.article(c[1], c[2], c[3]); return 0;
            case 1: t.offer(c[1], c[2], c[3], c[4], c[5]); return 0;
            case 2: t.member(c[1], c[2], c[3], c[4] == 1); return 0;
            case 3: t.run(c[1], c[2] == 1); return 0;
            case 4: return t.scan(c[1]);
            case 5: return t.unscan(c[1]);
            case 6: return t.total(c[1]);
            case 7: return t.unit(c[1], c[2]);
            case 8: return t.tax(c[1]);
            case 9: return t.tryOffer(c[1]);
            case 10: return t.finish(c[1]);
            case 11: return t.giveBack(c[1], c[2]);
            case 12: return t.receipt(c[1], c[2]);
            case 13: return t.line(c[1], c[2], c[3]);
            default: return lookAtAll(t::total, t::unit);
        }
    }

    private interface Total {
        int of(int what);
    }

    private interface Unit {
        int of(int i, int what);
    }

    /** Every unit's every answer in one number, so that no difference in a plan is missed. */
    private static int lookAtAll(Total total, Unit unit) {
        int mix = total.of(0) * 31 + total.of(2);
        try {
            for (int i = 0; i < 11; i++) {
                for (int what = 0; what < 4; what++) {
                    mix = mix * 31 + unit.of(i, what);
                }
            }
        } catch (IndexOutOfBoundsException e) {
            return mix;
        }
        throw new IllegalStateException("eleven units");
    }

    /** Mostly a number below the bound, sometimes one beside the range. */
    private static int pick(Random random, int bound) {
        int dice = random.nextInt(150);
        if (dice == 0) {
            return -1;
        }
        if (dice == 1) {
            return bound;
        }
        if (dice == 2) {
            return random.nextInt();
        }
        return random.nextInt(bound);
    }

    private static int[] randomCall(Random r, int articles, int prices, int k) {
        boolean setting = k < 45;
        int dice = r.nextInt(100);
        if (setting ? dice < 99 : dice < 4) {
            return settingCall(r, articles, prices);
        }
        dice = r.nextInt(100);
        int article = r.nextInt(100) == 0 ? pick(r, 12) : r.nextInt(articles);
        if (dice < 38) {
            return new int[] {4, article};
        }
        if (dice < 44) {
            return new int[] {5, pick(r, 10)};
        }
        if (dice < 50) {
            return new int[] {6, pick(r, 3)};
        }
        if (dice < 58) {
            return new int[] {7, pick(r, 10), pick(r, 4)};
        }
        if (dice < 62) {
            return new int[] {8, pick(r, 4)};
        }
        if (dice < 68) {
            return new int[] {9, pick(r, 6)};
        }
        if (dice < 72) {
            return new int[] {10, r.nextInt(3) == 0 ? r.nextInt(1000) : r.nextInt(2000000)};
        }
        if (dice < 82) {
            return new int[] {11, pick(r, r.nextBoolean() ? 2 : 13), pick(r, 10)};
        }
        if (dice < 86) {
            return new int[] {12, pick(r, 3), pick(r, 6)};
        }
        if (dice < 90) {
            return new int[] {13, pick(r, 3), pick(r, 8), pick(r, 4)};
        }
        return new int[] {LOOK_AT_ALL};
    }

    private static int[] settingCall(Random r, int articles, int prices) {
        int dice = r.nextInt(100);
        if (dice < 20) {
            // Few prices make many plans of equal totals, so that the order of ways counts.
            int cents = prices == 0 ? 50 + 50 * r.nextInt(2)
                    : prices == 1 ? 1 + r.nextInt(9) * (1 + r.nextInt(20)) : pick(r, 100001);
            return new int[] {0, pick(r, articles), cents, pick(r, 4)};
        }
        if (dice < 38) {
            int kind = pick(r, 4);
            int value = kind == 3 ? r.nextInt(120) : prices == 0 ? 50 * r.nextInt(5)
                    : prices == 1 ? r.nextInt(300) : pick(r, r.nextBoolean() ? 400001 : 90000);
            int most = r.nextBoolean() ? 0 : pick(r, 6);
            int n = r.nextInt(40) == 0 ? pick(r, 6) : 2 + r.nextInt(3);
            return new int[] {1, pick(r, 6), kind, n, value, most};
        }
        if (dice < 85) {
            int article = r.nextInt(30) == 0 ? pick(r, 12) : r.nextInt(articles);
            int set = r.nextInt(3) == 0 ? pick(r, 4) : 0;
            return new int[] {2, pick(r, 6), set, article, r.nextInt(8) == 0 ? 0 : 1};
        }
        return new int[] {3, pick(r, 6), r.nextInt(4) == 0 ? 0 : 1};
    }

    /** Prices and offers: o[k] is kind, n, value, most, runs; in[k][set][article]. */
    private static final class Terms {
        int[] cents = new int[12];
        int[] tax = new int[12];
        int[][] o = new int[6][];
        boolean[][][] in = new boolean[6][4][12];

        Terms() {
            java.util.Arrays.fill(cents, 100);
            for (int k = 0; k < 6; k++) {
                o[k] = new int[] {0, 2, 0, 0, 0};
            }
        }

        Terms copy() {
            Terms copy = new Terms();
            copy.cents = cents.clone();
            copy.tax = tax.clone();
            for (int k = 0; k < 6; k++) {
                copy.o[k] = o[k].clone();
                for (int s = 0; s < 4; s++) {
                    copy.in[k][s] = in[k][s].clone();
                }
            }
            return copy;
        }

        boolean looked(int article) {
            for (int k = 0; k < 6; k++) {
                int sets = o[k][0] == 2 ? o[k][1] : 1;
                for (int s = 0; s < sets; s++) {
                    if (o[k][4] == 1 && in[k][s][article]) {
                        return true;
                    }
                }
            }
            return false;
        }

        long room(List<Integer> units) {
            long room = 1;
            for (int a = 0; a < 12; a++) {
                int article = a;
                if (looked(a)) {
                    room *= 1 + units.stream().filter(u -> u == article).count();
                }
            }
            for (int k = 0; k < 6; k++) {
                if (o[k][4] == 1 && o[k][3] > 0) {
                    room *= o[k][3] + 1;
                }
            }
            return room;
        }

        int size(int k) {
            return o[k][0] == 3 ? 2 : o[k][1];
        }

        long cost(int k, List<Integer> list) {
            long sum = 0;
            long least = Long.MAX_VALUE;
            for (int a : list) {
                sum += cents[a];
                least = Math.min(least, cents[a]);
            }
            if (o[k][0] == 1) {
                return sum - least;
            }
            if (o[k][0] == 3) {
                long percent = Math.min(100, o[k][2]);
                long reduced = least * percent / 100 + (least * percent % 100 >= 50 ? 1 : 0);
                return sum - least + reduced;
            }
            return o[k][2];
        }
    }

    /** The search for one basket under one set of terms. */
    private static final class Search {
        final Terms terms;
        final List<Integer> units;
        final Map<String, Long> known = new HashMap<>();
        final int[] offerOf;
        final int[] useOf;
        final long[] pays;
        int uses = 0;

        Search(Terms terms, List<Integer> units) {
            this.terms = terms;
            this.units = units;
            offerOf = new int[units.size()];
            useOf = new int[units.size()];
            pays = new long[units.size()];
        }

        /** The least total of the units in the mask, by any plan. */
        long least(int mask, int[] used) {
            if (mask == 0) {
                return 0;
            }
            String key = mask + java.util.Arrays.toString(used);
            Long before = known.get(key);
            if (before != null) {
                return before;
            }
            int low = Integer.numberOfTrailingZeros(mask);
            long best = terms.cents[units.get(low)] + least(mask & ~(1 << low), used);
            for (int k = 0; k < 6; k++) {
                if (terms.o[k][4] == 0 || terms.o[k][3] > 0 && used[k] == terms.o[k][3]) {
                    continue;
                }
                for (int part = mask; part > 0; part = (part - 1) & mask) {
                    if ((part >> low & 1) == 1 && Integer.bitCount(part) == terms.size(k)) {
                        List<Integer> list = articles(part);
                        if (canBe(k, list, 0)) {
                            count(used, k, 1);
                            best = Math.min(best, terms.cost(k, list) + least(mask & ~part, used));
                            count(used, k, -1);
                        }
                    }
                }
            }
            known.put(key, best);
            return best;
        }

        void count(int[] used, int k, int by) {
            if (terms.o[k][3] > 0) {
                used[k] += by;
            }
        }

        List<Integer> articles(int part) {
            List<Integer> list = new ArrayList<>();
            for (int i = 0; i < units.size(); i++) {
                if ((part >> i & 1) == 1) {
                    list.add(units.get(i));
                }
            }
            return list;
        }

        boolean canBe(int k, List<Integer> list, int place) {
            if (list.isEmpty()) {
                return true;
            }
            int set = terms.o[k][0] == 2 ? place : 0;
            for (int i = 0; i < list.size(); i++) {
                List<Integer> rest = new ArrayList<>(list);
                if (terms.in[k][set][rest.remove(i)] && canBe(k, rest, place + 1)) {
                    return true;
                }
            }
            return false;
        }

        long plan() {
            for (int i = 0; i < units.size(); i++) {
                offerOf[i] = -1;
                useOf[i] = -1;
                pays[i] = terms.cents[units.get(i)];
            }
            int mask = (1 << units.size()) - 1;
            int[] used = new int[6];
            long total = least(mask, used);
            long spent = 0;
            while (true) {
                int article = 12;
                for (int a : articles(mask)) {
                    if (terms.looked(a)) {
                        article = Math.min(article, a);
                    }
                }
                if (article == 12) {
                    break;
                }
                int alone = mask & ~firstUnits(mask, List.of(article));
                if (spent + terms.cents[article] + least(alone, used) == total) {
                    spent += terms.cents[article];
                    mask = alone;
                    continue;
                }
                int part = 0;
                for (int k = 0; k < 6 && part == 0; k++) {
                    part = firstList(k, article, mask, used, total - spent);
                    if (part != 0) {
                        count(used, k, 1);
                        spent += terms.cost(k, articles(part));
                        mark(part, k);
                        mask &= ~part;
                    }
                }
                if (part == 0) {
                    throw new AssertionError("no way");
                }
            }
            return total;
        }

        int firstList(int k, int article, int mask, int[] used, long due) {
            if (terms.o[k][4] == 0 || terms.o[k][3] > 0 && used[k] == terms.o[k][3]) {
                return 0;
            }
            List<List<Integer>> lists = new ArrayList<>();
            allLists(k, new ArrayList<>(), mask, lists);
            lists.removeIf(list -> !list.contains(article));
            lists.sort((x, y) -> {
                int i = 0;
                while (i < x.size() && x.get(i).equals(y.get(i))) {
                    i++;
                }
                return i == x.size() ? 0 : x.get(i) - y.get(i);
            });
            for (List<Integer> list : lists) {
                int part = firstUnits(mask, list);
                count(used, k, 1);
                long total = terms.cost(k, list) + least(mask & ~part, used);
                count(used, k, -1);
                if (total == due) {
                    return part;
                }
            }
            return 0;
        }

        void allLists(int k, List<Integer> list, int mask, List<List<Integer>> lists) {
            if (list.size() == terms.size(k)) {
                lists.add(new ArrayList<>(list));
                return;
            }
            boolean bySets = terms.o[k][0] == 2;
            for (int a = 11; a >= 0; a--) {
                boolean rising = list.isEmpty() || a >= list.get(list.size() - 1);
                if (!terms.in[k][bySets ? list.size() : 0][a] || !bySets && !rising) {
                    continue;
                }
                list.add(a);
                if (Integer.bitCount(firstUnits(mask, list)) == list.size()) {
                    allLists(k, list, mask, lists);
                }
                list.remove(list.size() - 1);
            }
        }

        int firstUnits(int mask, List<Integer> list) {
            int part = 0;
            for (int a : list) {
                for (int i = 0; i < units.size(); i++) {
                    if (units.get(i) == a && (mask >> i & 1) == 1 && (part >> i & 1) == 0) {
                        part |= 1 << i;
                        break;
                    }
                }
            }
            return part;
        }

        void mark(int part, int k) {
            long sum = 0;
            List<Integer> members = new ArrayList<>();
            for (int i = 0; i < units.size(); i++) {
                if ((part >> i & 1) == 1) {
                    members.add(i);
                    sum += pays[i];
                    offerOf[i] = k;
                    useOf[i] = uses;
                }
            }
            uses++;
            long saving = sum - terms.cost(k, articles(part));
            long left = saving;
            long divisor = sum;
            Map<Integer, Long> rest = new HashMap<>();
            for (int i : members) {
                long share = saving * pays[i] / divisor;
                rest.put(i, saving * pays[i] % divisor);
                pays[i] -= share;
                left -= share;
            }
            members.sort((x, y) -> rest.get(x).equals(rest.get(y)) ? x - y
                    : Long.compare(rest.get(y), rest.get(x)));
            for (int i = 0; i < left; i++) {
                pays[members.get(i)]--;
            }
        }
    }

    private static final class Bill {
        Terms terms;
        List<Integer> units;
        Search search;
        List<Integer> back = new ArrayList<>();
        long paid;
        long refund;
    }

    private static final class Model {
        Terms terms = new Terms();
        List<Integer> units = new ArrayList<>();
        List<Bill> bills = new ArrayList<>();
        long drawer = 0;

        static void need(boolean good, RuntimeException e) {
            if (!good) {
                throw e;
            }
        }

        static boolean in(int x, int low, int high) {
            return low <= x && x <= high;
        }

        static void arg(boolean good) {
            need(good, new IllegalArgumentException());
        }

        static void index(int i, int size) {
            need(in(i, 0, size - 1), new IndexOutOfBoundsException());
        }

        void empty() {
            need(units.isEmpty(), new IllegalStateException());
        }

        Search planned() {
            Search search = new Search(terms, units);
            search.plan();
            return search;
        }

        int call(int[] c) {
            switch (c[0]) {
                case 0:
                    arg(in(c[1], 0, 11) && in(c[2], 1, 100000) && in(c[3], 0, 3));
                    empty();
                    terms.cents[c[1]] = c[2];
                    terms.tax[c[1]] = c[3];
                    return 0;
                case 1:
                    arg(in(c[1], 0, 5) && in(c[2], 0, 3) && in(c[3], 2, 4) && in(c[4], 0, 400000)
                            && in(c[5], 0, 5));
                    empty();
                    terms.o[c[1]] = new int[] {c[2], c[3], c[4], c[5], terms.o[c[1]][4]};
                    return 0;
                case 2:
                    arg(in(c[1], 0, 5) && in(c[2], 0, 3) && in(c[3], 0, 11));
                    empty();
                    terms.in[c[1]][c[2]][c[3]] = c[4] == 1;
                    return 0;
                case 3:
                    arg(in(c[1], 0, 5));
                    empty();
                    terms.o[c[1]][4] = c[2];
                    return 0;
                case 4:
                    return scan(c[1]);
                case 5:
                    index(c[1], units.size());
                    return units.remove(c[1]);
                case 6:
                    arg(in(c[1], 0, 2));
                    return c[1] == 0 ? (int) planned().plan() : c[1] == 2 ? planned().uses
                            : units.stream().mapToInt(a -> terms.cents[a]).sum();
                case 7:
                    return unit(c[1], c[2]);
                case 8:
                    return tax(c[1]);
                case 9:
                    return tryOffer(c[1]);
                case 10:
                    return finish(c[1]);
                case 11:
                    return giveBack(c[1], c[2]);
                case 12:
                    return receipt(c[1], c[2]);
                case 13:
                    return line(c[1], c[2], c[3]);
                default:
                    Search search = planned();
                    plansWithUses[search.uses]++;
                    long total = new Search(terms, units).plan();
                    return lookAtAll(w -> w == 0 ? (int) total : search.uses, (i, w) -> {
                        index(i, units.size());
                        return w == 0 ? units.get(i) : w == 1 ? search.offerOf[i]
                                : w == 2 ? search.useOf[i] : (int) search.pays[i];
                    });
            }
        }

        int scan(int article) {
            arg(in(article, 0, 11));
            List<Integer> more = new ArrayList<>(units);
            more.add(article);
            need(more.size() <= 10 && terms.room(more) <= 3000, new UnsupportedOperationException());
            units = more;
            return units.size();
        }

        int unit(int i, int what) {
            index(i, units.size());
            arg(in(what, 0, 3));
            Search s = planned();
            return what == 0 ? units.get(i) : what == 1 ? s.offerOf[i] : what == 2 ? s.useOf[i]
                    : (int) s.pays[i];
        }

        int tax(int taxClass) {
            arg(in(taxClass, 0, 3));
            Search s = planned();
            long sum = 0;
            for (int i = 0; i < units.size(); i++) {
                sum += terms.tax[units.get(i)] == taxClass ? s.pays[i] : 0;
            }
            long percent = new long[] {0, 7, 19, 25}[taxClass];
            long whole = 100 + percent;
            long rest = sum * percent % whole;
            return (int) (sum * percent / whole + (2 * rest >= whole ? 1 : 0));
        }

        int tryOffer(int k) {
            arg(in(k, 0, 5));
            Terms other = terms.copy();
            other.o[k][4] = 1 - other.o[k][4];
            need(other.room(units) <= 3000, new UnsupportedOperationException());
            return (int) new Search(other, units).plan();
        }

        int finish(int cents) {
            need(!units.isEmpty(), new IllegalStateException());
            Search s = new Search(terms.copy(), units);
            long total = s.plan();
            arg(cents >= total);
            need(bills.size() < 12, new UnsupportedOperationException());
            Bill bill = new Bill();
            bill.terms = s.terms;
            bill.units = units;
            bill.search = s;
            bill.paid = total;
            bills.add(bill);
            units = new ArrayList<>();
            drawer += total;
            return (int) (cents - total);
        }

        int giveBack(int n, int i) {
            index(n, bills.size());
            Bill bill = bills.get(n);
            index(i, bill.units.size());
            need(!bill.back.contains(i), new IllegalStateException());
            bill.back.add(i);
            List<Integer> kept = new ArrayList<>();
            for (int k = 0; k < bill.units.size(); k++) {
                if (!bill.back.contains(k)) {
                    kept.add(bill.units.get(k));
                }
            }
            long refund = Math.max(bill.refund, bill.paid - new Search(bill.terms, kept).plan());
            long now = refund - bill.refund;
            bill.refund = refund;
            drawer -= now;
            return (int) now;
        }

        int receipt(int n, int what) {
            arg(in(what, 0, 5));
            if (what >= 4) {
                return what == 4 ? bills.size() : (int) drawer;
            }
            index(n, bills.size());
            Bill bill = bills.get(n);
            int size = bill.units.size();
            return what == 0 ? (int) bill.paid : what == 1 ? (int) bill.refund
                    : what == 2 ? size : size - bill.back.size();
        }

        int line(int n, int i, int what) {
            index(n, bills.size());
            Bill bill = bills.get(n);
            index(i, bill.units.size());
            arg(in(what, 0, 3));
            return what == 0 ? bill.units.get(i) : what == 1 ? bill.search.offerOf[i]
                    : what == 2 ? (int) bill.search.pays[i] : bill.back.contains(i) ? 0 : 1;
        }
    }
}
