import java.util.ArrayList;
import java.util.Arrays;

/**
 * A till with promotions: units are scanned, offers are applied so that the customer pays the
 * least, savings are spread over units to the cent, and what comes back later is refunded by the
 * difference.
 */
public final class PromotionTill {
    public static final int NONE = -1;

    private static final int ARTICLES = 12;
    private static final int OFFERS = 6;
    private static final int SETS = 4;
    private static final int UNITS = 10;
    private static final int RECEIPTS = 12;
    private static final int ROOM = 3000;
    private static final int MAX_CENTS = 100000;
    private static final int MAX_VALUE = 400000;
    private static final int MAX_MOST = 5;
    private static final int FIRST_CENTS = 100;
    private static final int LEAST_N = 2;
    private static final int MOST_N = 4;
    private static final int[] PERCENTS = {0, 7, 19, 25};

    private static final int CHEAPEST_FREE = 1;
    private static final int ONE_OF_EACH = 2;
    private static final int CHEAPER_REDUCED = 3;

    private final Tariff tariff = new Tariff();
    /** Not in the tariff, as a receipt has no need of them. */
    private final int[] taxClasses = new int[ARTICLES];
    private final Basket basket = new Basket();
    private final Basket keptUnits = new Basket();
    private final Planner planner = new Planner();
    private final Plan plan = new Plan();
    private final ArrayList<Receipt> receipts = new ArrayList<Receipt>();
    private boolean planned;
    private int drawer;

    public PromotionTill() {
    }

    public void article(int id, int cents, int taxClass)
            throws IllegalArgumentException, IllegalStateException {
        requireArticle(id);
        requireArgument(within(cents, 1, MAX_CENTS));
        requireArgument(within(taxClass, 0, PERCENTS.length - 1));
        requireEmptyBasket();
        tariff.cents[id] = cents;
        taxClasses[id] = taxClass;
    }

    public void offer(int id, int kind, int n, int value, int most)
            throws IllegalArgumentException, IllegalStateException {
        requireOffer(id);
        requireArgument(within(kind, 0, CHEAPER_REDUCED));
        requireArgument(within(n, LEAST_N, MOST_N));
        requireArgument(within(value, 0, MAX_VALUE));
        requireArgument(within(most, 0, MAX_MOST));
        requireEmptyBasket();
        Offer changed = tariff.offers[id];
        changed.kind = kind;
        changed.n = n;
        changed.value = value;
        changed.most = most;
    }

    public void member(int offer, int set, int article, boolean in)
            throws IllegalArgumentException, IllegalStateException {
        requireOffer(offer);
        requireArgument(within(set, 0, SETS - 1));
        requireArticle(article);
        requireEmptyBasket();
        tariff.offers[offer].put(set, article, in);
    }

    public void run(int offer, boolean runs)
            throws IllegalArgumentException, IllegalStateException {
        requireOffer(offer);
        requireEmptyBasket();
        tariff.offers[offer].runs = runs;
    }

    public int scan(int article) throws IllegalArgumentException, UnsupportedOperationException {
        requireArticle(article);
        if (basket.size >= UNITS) {
            throw new UnsupportedOperationException("the basket has ten units");
        }
        basket.add(article);
        if (planner.roomFor(tariff, basket) > ROOM) {
            basket.remove(basket.size - 1);
            throw new UnsupportedOperationException("the room would not do");
        }
        planned = false;
        return basket.size;
    }

    public int unscan(int i) throws IndexOutOfBoundsException {
        requireIndex(i, basket.size);
        int gone = basket.articles[i];
        basket.remove(i);
        planned = false;
        return gone;
    }

    public int total(int what) throws IllegalArgumentException {
        requireArgument(within(what, 0, 2));
        if (what == 1) {
            return basket.priceIn(tariff);
        }
        findPlan();
        return what == 0 ? plan.paidIn(basket) : plan.uses;
    }

    public int unit(int i, int what) throws IndexOutOfBoundsException, IllegalArgumentException {
        requireIndex(i, basket.size);
        requireArgument(within(what, 0, 3));
        if (what == 0) {
            return basket.articles[i];
        }
        findPlan();
        switch (what) {
            case 1:
                return plan.offerOf[i];
            case 2:
                return plan.useOf[i];
            default:
                return plan.pays[i];
        }
    }

    public int tax(int taxClass) throws IllegalArgumentException {
        requireArgument(within(taxClass, 0, PERCENTS.length - 1));
        findPlan();
        int paid = 0;
        for (int i = 0; i < basket.size; i++) {
            if (taxClasses[basket.articles[i]] == taxClass) {
                paid += plan.pays[i];
            }
        }
        int percent = PERCENTS[taxClass];
        int whole = 100 + percent;
        return (2 * paid * percent + whole) / (2 * whole);
    }

    public int tryOffer(int offer) throws IllegalArgumentException, UnsupportedOperationException {
        requireOffer(offer);
        Offer tried = tariff.offers[offer];
        tried.runs = !tried.runs;
        boolean hasRoom = planner.roomFor(tariff, basket) <= ROOM;
        int least = hasRoom ? planner.leastTotal(tariff, basket) : 0;
        tried.runs = !tried.runs;
        if (!hasRoom) {
            throw new UnsupportedOperationException("the room would not do");
        }
        return least;
    }

    public int finish(int cents)
            throws IllegalStateException, IllegalArgumentException, UnsupportedOperationException {
        if (basket.size == 0) {
            throw new IllegalStateException("the basket is empty");
        }
        findPlan();
        int paid = plan.paidIn(basket);
        requireArgument(cents >= paid);
        if (receipts.size() >= RECEIPTS) {
            throw new UnsupportedOperationException("there are twelve receipts");
        }
        receipts.add(new Receipt(tariff, basket, plan));
        drawer += paid;
        basket.size = 0;
        planned = false;
        return cents - paid;
    }

    public int giveBack(int receipt, int i)
            throws IndexOutOfBoundsException, IllegalStateException {
        Receipt given = receiptAt(receipt);
        requireIndex(i, given.units.size);
        if (!given.kept[i]) {
            throw new IllegalStateException("the unit was given back before");
        }
        given.kept[i] = false;
        given.copyKeptTo(keptUnits);
        int paidOut = given.raiseRefund(planner.leastTotal(given.tariff, keptUnits));
        drawer -= paidOut;
        return paidOut;
    }

    public int receipt(int n, int what) throws IllegalArgumentException, IndexOutOfBoundsException {
        requireArgument(within(what, 0, 5));
        if (what == 4) {
            return receipts.size();
        }
        if (what == 5) {
            return drawer;
        }
        Receipt asked = receiptAt(n);
        switch (what) {
            case 0:
                return asked.paid;
            case 1:
                return asked.refunded;
            case 2:
                return asked.units.size;
            default:
                return asked.keptCount();
        }
    }

    public int line(int receipt, int i, int what)
            throws IndexOutOfBoundsException, IllegalArgumentException {
        Receipt asked = receiptAt(receipt);
        requireIndex(i, asked.units.size);
        requireArgument(within(what, 0, 3));
        switch (what) {
            case 0:
                return asked.units.articles[i];
            case 1:
                return asked.offerOf[i];
            case 2:
                return asked.paidFor[i];
            default:
                return asked.kept[i] ? 1 : 0;
        }
    }

    private static boolean within(int number, int least, int most) {
        return number >= least && number <= most;
    }

    private static void requireArgument(boolean asItMustBe) {
        if (!asItMustBe) {
            throw new IllegalArgumentException("an argument is not as it must be");
        }
    }

    private static void requireArticle(int article) {
        requireArgument(within(article, 0, ARTICLES - 1));
    }

    private static void requireOffer(int offer) {
        requireArgument(within(offer, 0, OFFERS - 1));
    }

    private static void requireIndex(int index, int size) {
        if (!within(index, 0, size - 1)) {
            throw new IndexOutOfBoundsException("there is none such");
        }
    }

    private void requireEmptyBasket() {
        if (basket.size != 0) {
            throw new IllegalStateException("the basket is not empty");
        }
    }

    private Receipt receiptAt(int n) {
        requireIndex(n, receipts.size());
        return receipts.get(n);
    }

    /** The tariff can't change under a basket with units: only scan, unscan and finish undo it. */
    private void findPlan() {
        if (!planned) {
            plan.leaveAllAlone(tariff, basket);
            planner.solve(tariff, basket);
            planner.fillPlan(basket, plan);
            planned = true;
        }
    }

    private static final class Offer {
        int kind;
        int n = LEAST_N;
        int value;
        int most;
        boolean runs;
        /** Bit a of a set says whether article a is in it. */
        final int[] sets = new int[SETS];

        void put(int set, int article, boolean in) {
            int bit = 1 << article;
            sets[set] = in ? sets[set] | bit : sets[set] & ~bit;
        }

        int unitsOfUse() {
            return kind == CHEAPER_REDUCED ? 2 : n;
        }

        boolean takesAt(int place, int article) {
            int set = kind == ONE_OF_EACH ? place : 0;
            return set >= 0 && set < sets.length && (sets[set] >> article & 1) == 1;
        }

        boolean looksAt(int article) {
            for (int place = 0; place < unitsOfUse(); place++) {
                if (takesAt(place, article)) {
                    return true;
                }
            }
            return false;
        }

        int savingOn(int sumOfPrices, int leastPrice) {
            switch (kind) {
                case CHEAPEST_FREE:
                    return leastPrice;
                case CHEAPER_REDUCED:
                    int percent = value < 100 ? value : 100;
                    return leastPrice - (leastPrice * percent + 50) / 100;
                default:
                    return sumOfPrices - value;
            }
        }

        void copyTo(Offer copy) {
            copy.kind = kind;
            copy.n = n;
            copy.value = value;
            copy.most = most;
            copy.runs = runs;
            System.arraycopy(sets, 0, copy.sets, 0, SETS);
        }
    }

    private static final class Tariff {
        final int[] cents = new int[ARTICLES];
        final Offer[] offers = new Offer[OFFERS];

        Tariff() {
            Arrays.fill(cents, FIRST_CENTS);
            for (int i = 0; i < OFFERS; i++) {
                offers[i] = new Offer();
            }
        }

        boolean looksAt(int article) {
            for (int i = 0; i < OFFERS; i++) {
                if (offers[i].runs && offers[i].looksAt(article)) {
                    return true;
                }
            }
            return false;
        }

        Tariff copy() {
            Tariff copy = new Tariff();
            System.arraycopy(cents, 0, copy.cents, 0, ARTICLES);
            for (int i = 0; i < OFFERS; i++) {
                offers[i].copyTo(copy.offers[i]);
            }
            return copy;
        }
    }

    /** Units in the order of scanning. */
    private static final class Basket {
        final int[] articles = new int[UNITS];
        int size;

        void add(int article) {
            if (size < articles.length) {
                articles[size] = article;
                size++;
            }
        }

        void remove(int i) {
            if (i < 0 || i >= size) {
                return;
            }
            for (int k = i; k < size - 1; k++) {
                articles[k] = articles[k + 1];
            }
            size--;
        }

        int countOf(int article) {
            int count = 0;
            for (int i = 0; i < size; i++) {
                if (articles[i] == article) {
                    count++;
                }
            }
            return count;
        }

        int priceIn(Tariff tariff) {
            int sum = 0;
            for (int i = 0; i < size; i++) {
                sum += tariff.cents[articles[i]];
            }
            return sum;
        }
    }

    private static final class Receipt {
        final Tariff tariff;
        final Basket units = new Basket();
        final int[] offerOf = new int[UNITS];
        final int[] paidFor = new int[UNITS];
        final boolean[] kept = new boolean[UNITS];
        final int paid;
        int refunded;

        Receipt(Tariff tariff, Basket basket, Plan plan) {
            this.tariff = tariff.copy();
            for (int i = 0; i < basket.size; i++) {
                units.add(basket.articles[i]);
                offerOf[i] = plan.offerOf[i];
                paidFor[i] = plan.pays[i];
                kept[i] = true;
            }
            paid = plan.paidIn(basket);
        }

        int keptCount() {
            int count = 0;
            for (int i = 0; i < units.size; i++) {
                if (kept[i]) {
                    count++;
                }
            }
            return count;
        }

        void copyKeptTo(Basket copy) {
            copy.size = 0;
            for (int i = 0; i < units.size; i++) {
                if (kept[i]) {
                    copy.add(units.articles[i]);
                }
            }
        }

        /** A bundle that is broken up can make the rest dearer: the refund then stays as it was. */
        int raiseRefund(int leastOfKept) {
            int before = refunded;
            refunded = Math.max(before, paid - leastOfKept);
            return refunded - before;
        }
    }

    /** What the plan that counts says of each unit of a basket. */
    private static final class Plan {
        final int[] offerOf = new int[UNITS];
        final int[] useOf = new int[UNITS];
        final int[] pays = new int[UNITS];
        int uses;
        private final boolean[] taken = new boolean[UNITS];
        private final long[] remainders = new long[UNITS];

        void leaveAllAlone(Tariff tariff, Basket basket) {
            uses = 0;
            for (int i = 0; i < basket.size; i++) {
                offerOf[i] = NONE;
                useOf[i] = NONE;
                pays[i] = tariff.cents[basket.articles[i]];
                taken[i] = false;
            }
        }

        int paidIn(Basket basket) {
            int sum = 0;
            for (int i = 0; i < basket.size; i++) {
                sum += pays[i];
            }
            return sum;
        }

        void takeAlone(Basket basket, int article) {
            takeFirst(basket, article);
        }

        void takeIntoUse(Basket basket, int article, int offer) {
            int i = takeFirst(basket, article);
            if (i != NONE) {
                offerOf[i] = offer;
                useOf[i] = uses;
            }
        }

        private int takeFirst(Basket basket, int article) {
            for (int i = 0; i < basket.size; i++) {
                if (!taken[i] && basket.articles[i] == article) {
                    taken[i] = true;
                    return i;
                }
            }
            return NONE;
        }

        /** The units of the newest use still have their prices in pays: the saving goes off. */
        void endUse(Basket basket, int saving) {
            int prices = 0;
            for (int i = 0; i < basket.size; i++) {
                if (useOf[i] == uses) {
                    prices += pays[i];
                }
            }
            if (prices > 0) {
                int cents = saving - spreadWholeShares(basket, saving, prices);
                spreadRest(basket, cents);
            }
            uses++;
        }

        private int spreadWholeShares(Basket basket, int saving, int prices) {
            int spread = 0;
            for (int i = 0; i < basket.size; i++) {
                remainders[i] = NONE;
                if (useOf[i] == uses && prices > 0) {
                    long product = (long) saving * pays[i];
                    int share = (int) (product / prices);
                    remainders[i] = product % prices;
                    pays[i] -= share;
                    spread += share;
                }
            }
            return spread;
        }

        private void spreadRest(Basket basket, int cents) {
            for (int cent = 0; cent < cents && cent < UNITS; cent++) {
                int greatest = 0;
                for (int i = 1; i < basket.size; i++) {
                    if (remainders[i] > remainders[greatest]) {
                        greatest = i;
                    }
                }
                pays[greatest]--;
                remainders[greatest] = NONE;
            }
        }
    }

    /**
     * All uses with a saving that the units of a basket allow, in the order in which the document
     * tries them. A use without a saving is never needed, as its units alone cost no more.
     * Two lists of one offer with the same articles are one use: the lesser list stands for it.
     */
    private static final class Uses {
        /** Six offers with four out of ten units each. */
        private static final int MOST_USES = 6 * 210;
        /** The product of (units and 1) is greatest for ten articles with one unit each. */
        private static final int ARTICLE_STATES = 1024;
        private static final int ARTICLE_BITS = 4;
        private static final int SIZE_SHIFT = 16;
        private static final int OFFER_SHIFT = 20;
        private static final int FOUR_BITS = 15;

        /** Articles, number of units and offer in one number, so that a till stays small. */
        private final int[] packed = new int[MOST_USES];
        private final int[] savings = new int[MOST_USES];
        private final int[] steps = new int[MOST_USES];
        private final int[] nexts = new int[MOST_USES];
        private final int[] firsts = new int[ARTICLES];
        private final int[] lasts = new int[ARTICLES];
        private final int[] taken = new int[ARTICLES];
        /** The stamp of the search that last met a use with these articles. */
        private final int[] metBy = new int[ARTICLE_STATES];
        private int stamp;
        private int size;

        void collect(Tariff tariff, int[] units, int[] strides) {
            size = 0;
            Arrays.fill(firsts, NONE);
            Arrays.fill(lasts, NONE);
            for (int i = 0; i < OFFERS; i++) {
                if (tariff.offers[i].runs) {
                    stamp++;
                    Arrays.fill(taken, 0);
                    choosePlace(0, 0, tariff, i, units, strides);
                }
            }
        }

        private void choosePlace(int place, int least, Tariff tariff, int number, int[] units,
                int[] strides) {
            Offer offer = tariff.offers[number];
            if (place >= offer.unitsOfUse() || place >= MOST_N) {
                keep(tariff, number, strides);
                return;
            }
            for (int article = least; article < ARTICLES; article++) {
                if (taken[article] < units[article] && offer.takesAt(place, article)) {
                    chooseBehind(place, article, tariff, number, units, strides);
                }
            }
        }

        private void chooseBehind(int place, int article, Tariff tariff, int number, int[] units,
                int[] strides) {
            boolean rising = tariff.offers[number].kind != ONE_OF_EACH;
            taken[article]++;
            choosePlace(place + 1, rising ? article : 0, tariff, number, units, strides);
            taken[article]--;
        }

        private void keep(Tariff tariff, int number, int[] strides) {
            int step = 0;
            int prices = 0;
            int leastPrice = MAX_CENTS;
            for (int article = 0; article < ARTICLES; article++) {
                if (taken[article] > 0) {
                    step += taken[article] * strides[article];
                    prices += taken[article] * tariff.cents[article];
                    leastPrice = Math.min(leastPrice, tariff.cents[article]);
                }
            }
            int saving = tariff.offers[number].savingOn(prices, leastPrice);
            if (saving > 0 && isNew(step) && size < MOST_USES) {
                boolean limited = tariff.offers[number].most > 0;
                packed[size] = packTaken(number);
                savings[size] = saving;
                steps[size] = limited ? step + strides[ARTICLES + number] : step;
                link(packed[size] & FOUR_BITS);
                size++;
            }
        }

        private boolean isNew(int step) {
            if (step < 0 || step >= ARTICLE_STATES || metBy[step] == stamp) {
                return false;
            }
            metBy[step] = stamp;
            return true;
        }

        private int packTaken(int number) {
            int count = 0;
            int articles = 0;
            for (int article = 0; article < ARTICLES; article++) {
                for (int k = 0; k < taken[article]; k++) {
                    articles |= article << ARTICLE_BITS * count;
                    count++;
                }
            }
            return articles | count << SIZE_SHIFT | number << OFFER_SHIFT;
        }

        /** Uses with the same least article make a chain, as the plan goes article by article. */
        private void link(int article) {
            if (article >= ARTICLES) {
                return;
            }
            int last = lasts[article];
            if (last == NONE) {
                firsts[article] = size;
            } else {
                nexts[last] = size;
            }
            lasts[article] = size;
            nexts[size] = NONE;
        }

        int firstWith(int article) {
            return firsts[article];
        }

        boolean has(int use) {
            return use >= 0 && use < size;
        }

        int nextOf(int use) {
            return nexts[use];
        }

        int offerOf(int use) {
            return packed[use] >> OFFER_SHIFT & FOUR_BITS;
        }

        int unitsOf(int use) {
            return packed[use] >> SIZE_SHIFT & FOUR_BITS;
        }

        int articleOf(int use, int place) {
            return packed[use] >> ARTICLE_BITS * place & FOUR_BITS;
        }

        int savingOf(int use) {
            return savings[use];
        }

        int stepOf(int use) {
            return steps[use];
        }
    }

    /**
     * Finds the greatest saving for every STATE: how many units of each article and how many uses
     * of each offer with a most are left. A state's number has these counts as digits, so that
     * there are as many states as the document's room.
     */
    private static final class Planner {
        private static final int DIGITS = ARTICLES + OFFERS;

        private final int[] tops = new int[DIGITS];
        private final int[] strides = new int[DIGITS];
        private final int[] left = new int[DIGITS];
        private final int[] saved = new int[ROOM];
        private final Uses uses = new Uses();
        /** The state in which all is left. */
        private int fullState;

        int roomFor(Tariff tariff, Basket basket) {
            for (int article = 0; article < ARTICLES; article++) {
                tops[article] = tariff.looksAt(article) ? basket.countOf(article) : 0;
            }
            for (int i = 0; i < OFFERS; i++) {
                Offer offer = tariff.offers[i];
                tops[ARTICLES + i] = offer.runs ? offer.most : 0;
            }
            int room = 1;
            for (int digit = 0; digit < DIGITS; digit++) {
                strides[digit] = room;
                room *= tops[digit] + 1;
            }
            return room;
        }

        int leastTotal(Tariff tariff, Basket basket) {
            solve(tariff, basket);
            return basket.priceIn(tariff) - savedAt(fullState);
        }

        /** Follows what solve has found for the basket, from the full state on. */
        void fillPlan(Basket basket, Plan plan) {
            int state = fullState;
            System.arraycopy(tops, 0, left, 0, DIGITS);
            for (int step = 0; step < basket.size; step++) {
                int article = leastLeft();
                if (article == NONE) {
                    return;
                }
                int use = firstBestUse(state, article);
                if (use == NONE) {
                    plan.takeAlone(basket, article);
                    left[article]--;
                    state -= strides[article];
                } else {
                    takeUse(use, basket, plan);
                    state -= uses.stepOf(use);
                }
            }
        }

        void solve(Tariff tariff, Basket basket) {
            int room = roomFor(tariff, basket);
            // Offers alone can be beyond the room, but only an empty basket stands beside them.
            if (basket.size == 0 || room > ROOM) {
                Arrays.fill(tops, 0);
                room = 1;
            }
            uses.collect(tariff, tops, strides);
            Arrays.fill(left, 0);
            saved[0] = 0;
            for (int state = 1; state < room && state < ROOM; state++) {
                countUp();
                saved[state] = bestSaving(state);
            }
            fullState = room - 1;
        }

        private void countUp() {
            for (int digit = 0; digit < DIGITS; digit++) {
                if (left[digit] < tops[digit]) {
                    left[digit]++;
                    return;
                }
                left[digit] = 0;
            }
        }

        private int bestSaving(int state) {
            int article = leastLeft();
            if (article == NONE) {
                return 0;
            }
            int best = savedAt(state - strides[article]);
            int use = uses.firstWith(article);
            for (int k = 0; k < Uses.MOST_USES && uses.has(use); k++) {
                int saving = savingBehind(state, use);
                if (saving > best && fits(use)) {
                    best = saving;
                }
                use = uses.nextOf(use);
            }
            return best;
        }

        /** NONE: a unit of the article is taken alone. */
        private int firstBestUse(int state, int article) {
            int best = savedAt(state);
            if (savedAt(state - strides[article]) == best) {
                return NONE;
            }
            int use = uses.firstWith(article);
            for (int k = 0; k < Uses.MOST_USES && uses.has(use); k++) {
                if (savingBehind(state, use) == best && fits(use)) {
                    return use;
                }
                use = uses.nextOf(use);
            }
            return NONE;
        }

        private int savingBehind(int state, int use) {
            return uses.savingOf(use) + savedAt(state - uses.stepOf(use));
        }

        private int savedAt(int state) {
            return state >= 0 && state < ROOM ? saved[state] : 0;
        }

        private int leastLeft() {
            for (int article = 0; article < ARTICLES; article++) {
                if (left[article] > 0) {
                    return article;
                }
            }
            return NONE;
        }

        private boolean isLimited(int offer) {
            return tops[ARTICLES + offer] > 0;
        }

        private boolean fits(int use) {
            int offer = uses.offerOf(use);
            if (isLimited(offer) && left[ARTICLES + offer] == 0) {
                return false;
            }
            int before = NONE;
            int wanted = 0;
            for (int place = 0; place < uses.unitsOf(use); place++) {
                int article = uses.articleOf(use, place);
                wanted = article == before ? wanted + 1 : 1;
                if (left[article] < wanted) {
                    return false;
                }
                before = article;
            }
            return true;
        }

        private void takeUse(int use, Basket basket, Plan plan) {
            int offer = uses.offerOf(use);
            for (int place = 0; place < uses.unitsOf(use); place++) {
                int article = uses.articleOf(use, place);
                plan.takeIntoUse(basket, article, offer);
                left[article]--;
            }
            if (isLimited(offer)) {
                left[ARTICLES + offer]--;
            }
            plan.endUse(basket, uses.savingOf(use));
        }
    }
}
