import java.util.ArrayList;
import java.util.Arrays;
import java.util.List;

/**
 * Every sentence of the document that names a boundary case (too small, too large, empty, full, a
 * refused call) has a test of its own here, on objects of its own. A heading has the sentence's
 * words, or says what follows from it; the sentences on new offers have one for each offer.
 * After each refused call the till is asked and used further beside a twin that did not get the
 * call, as a call that throws changes nothing.
 */
public final class BoundariesTest {
    private static final int LOW = Integer.MIN_VALUE;
    private static final int HIGH = Integer.MAX_VALUE;
    private static final int NONE = -1;
    private static final int MOST_CALLS = 512;
    private static final Class<?> ARGUMENT = IllegalArgumentException.class;
    private static final Class<?> STATE = IllegalStateException.class;
    private static final Class<?> INDEX = IndexOutOfBoundsException.class;
    private static final Class<?> UNSUPPORTED = UnsupportedOperationException.class;

    /** 32 and 33 would be 0 and 1 again for a shift, which wraps around. */
    private static final int[] NO_ARTICLES = {-1, 12, 32, 33, -32, LOW, HIGH};
    private static final int[] NO_OFFERS = {-1, 6, 32, LOW, HIGH};
    private static final int[] NO_SETS = {-1, 4, 32, LOW, HIGH};

    private static String sentence = "";
    private static int sentences = 0;
    private static int rows = 0;
    private static int rowsBefore = 0;
    private static int wrong = 0;

    public static void main(String[] args) {
        newObject();
        article();
        offer();
        member();
        run();
        scan();
        room();
        unscan();
        total();
        unit();
        tax();
        tryOffer();
        finish();
        giveBack();
        refund();
        receipt();
        line();
        kinds();
        most();
        orderOfWays();
        orderOfLists();
        numbersOfUses();
        spread();
        calls();
        says("the end");
        System.out.println(wrong == 0
                ? (sentences - 1) + " headings hold, by " + rows + " runs"
                : wrong + " answers are not as due");
        if (wrong != 0) {
            System.exit(1);
        }
    }

    // ---- how a row is run

    private interface Call {
        int on(PromotionTill till);
    }

    private interface Act {
        void on(PromotionTill till);
    }

    /** A till with its calls counted: the document says nothing of the 513th. */
    private static final class Subject {
        final PromotionTill till = new PromotionTill();
        int calls = 0;

        String answer(Call call) {
            calls++;
            if (calls > MOST_CALLS) {
                throw new AssertionError("this test makes too many calls: " + sentence);
            }
            try {
                return String.valueOf(call.on(till));
            } catch (RuntimeException e) {
                return e.getClass().getName() + thrower(e);
            }
        }

        /** Nothing but the class itself may throw: neither the machine nor the library. */
        private static String thrower(RuntimeException e) {
            String name = e.getStackTrace()[0].getClassName();
            return name.startsWith("PromotionTill") ? "" : " thrown by " + name;
        }

        int number(Call call) {
            return Integer.parseInt(answer(call));
        }
    }

    private static void says(String words) {
        if (sentences > 0 && rows == rowsBefore) {
            fail("has no test");
        }
        sentences++;
        rowsBefore = rows;
        sentence = words;
    }

    private static void fail(String told) {
        wrong++;
        System.out.println("\"" + sentence + "\": " + told);
    }

    private static Subject begin(Call[] setup) {
        Subject subject = new Subject();
        for (int k = 0; k < setup.length; k++) {
            String got = subject.answer(setup[k]);
            if (got.startsWith("java")) {
                fail("call " + k + " of the setup answered " + got);
            }
        }
        return subject;
    }

    private static void due(int want, Call[] setup, Call call) {
        rows++;
        String got = begin(setup).answer(call);
        if (!got.equals(String.valueOf(want))) {
            fail("run " + (rows - rowsBefore) + " answered " + got + ", due is " + want);
        }
    }

    private static void refused(Class<?> want, Call[] setup, Call call) {
        rows++;
        Subject asked = begin(setup);
        String got = asked.answer(call);
        if (!got.equals(want.getName())) {
            fail("run " + (rows - rowsBefore) + " answered " + got + ", due is " + want.getName());
            return;
        }
        String behind = useFurther(asked);
        String twin = useFurther(begin(setup));
        if (!behind.equals(twin)) {
            fail("run " + (rows - rowsBefore) + ": the refused call changed something:\n  " + behind
                    + "\n  " + twin);
        }
    }

    /** The answers of all looks, then of some work that shows what can't be looked at. */
    private static String useFurther(Subject s) {
        StringBuilder told = new StringBuilder();
        look(s, told, true);
        int size = 0;
        while (size < 10 && !s.answer(t -> t.unscan(0)).startsWith("java")) {
            size++;
        }
        told.append(" had ").append(size);
        workWith(s, told, 0, 0, 1, 1, 2, 11);
        for (int offer = 0; offer < 6; offer++) {
            int id = offer;
            s.answer(runOf(id, id == 0));
        }
        workWith(s, told, 0, 0, 1, 1, 2, 11);
        s.answer(scanOf(0));
        s.answer(scanOf(11));
        told.append(" change ").append(s.answer(t -> t.finish(HIGH)));
        told.append(" back ").append(s.answer(t -> t.giveBack(0, 0)));
        look(s, told, false);
        return told.toString();
    }

    private static void workWith(Subject s, StringBuilder told, int... articles) {
        int size = 0;
        for (int article : articles) {
            String got = s.answer(scanOf(article));
            told.append(" scan ").append(got);
            size += got.startsWith("java") ? 0 : 1;
        }
        for (int i = 0; i < size; i++) {
            int unit = i;
            told.append(' ').append(s.answer(t -> t.unit(unit, 1)));
            told.append(' ').append(s.answer(t -> t.unit(unit, 3)));
        }
        for (int taxClass = 1; taxClass < 4; taxClass++) {
            int asked = taxClass;
            told.append(" tax ").append(s.answer(t -> t.tax(asked)));
        }
        for (int offer = 0; offer < 6; offer++) {
            int asked = offer;
            told.append(" try ").append(s.answer(t -> t.tryOffer(asked)));
        }
        for (int i = 0; i < size; i++) {
            s.answer(t -> t.unscan(0));
        }
    }

    private static void look(Subject s, StringBuilder told, boolean lines) {
        for (int what = 0; what < 3; what++) {
            int asked = what;
            told.append(" total ").append(s.answer(t -> t.total(asked)));
        }
        boolean there = true;
        for (int i = 0; i < 10 && there; i++) {
            int unit = i;
            String got = s.answer(t -> t.unit(unit, 0));
            there = !got.startsWith("java");
            told.append(" unit ").append(got).append(' ').append(s.answer(t -> t.unit(unit, 2)));
        }
        int receipts = s.number(t -> t.receipt(0, 4));
        told.append(" receipts ").append(receipts);
        told.append(" drawer ").append(s.answer(t -> t.receipt(0, 5)));
        for (int n = 0; n < receipts; n++) {
            lookAtReceipt(s, told, n, lines);
        }
    }

    private static void lookAtReceipt(Subject s, StringBuilder told, int n, boolean lines) {
        told.append(" paid ").append(s.answer(t -> t.receipt(n, 0)));
        told.append(" refunded ").append(s.answer(t -> t.receipt(n, 1)));
        told.append(" kept ").append(s.answer(t -> t.receipt(n, 3)));
        int units = lines ? s.number(t -> t.receipt(n, 2)) : 0;
        for (int i = 0; i < units; i++) {
            int unit = i;
            for (int what = 0; what < 4; what++) {
                int asked = what;
                told.append(' ').append(s.answer(t -> t.line(n, unit, asked)));
            }
        }
    }

    // ---- the calls

    private static Call act(Act act) {
        return t -> {
            act.on(t);
            return 0;
        };
    }

    private static Call articleOf(int id, int cents, int taxClass) {
        return act(t -> t.article(id, cents, taxClass));
    }

    private static Call offerOf(int id, int kind, int n, int value, int most) {
        return act(t -> t.offer(id, kind, n, value, most));
    }

    private static Call memberOf(int offer, int set, int article, boolean in) {
        return act(t -> t.member(offer, set, article, in));
    }

    private static Call runOf(int offer, boolean runs) {
        return act(t -> t.run(offer, runs));
    }

    private static Call scanOf(int article) {
        return t -> t.scan(article);
    }

    private static Call totalOf(int what) {
        return t -> t.total(what);
    }

    private static Call unitOf(int i, int what) {
        return t -> t.unit(i, what);
    }

    private static Call finishOf(int cents) {
        return t -> t.finish(cents);
    }

    private static Call backOf(int receipt, int i) {
        return t -> t.giveBack(receipt, i);
    }

    private static Call receiptOf(int n, int what) {
        return t -> t.receipt(n, what);
    }

    // ---- setups

    private static Call[] calls(Object... parts) {
        List<Call> all = new ArrayList<Call>();
        for (Object part : parts) {
            if (part instanceof Call[]) {
                all.addAll(Arrays.asList((Call[]) part));
            } else {
                all.add((Call) part);
            }
        }
        return all.toArray(new Call[0]);
    }

    private static Call[] scans(int... articles) {
        Call[] all = new Call[articles.length];
        for (int k = 0; k < all.length; k++) {
            all[k] = scanOf(articles[k]);
        }
        return all;
    }

    private static Call[] times(int count, Call call) {
        Call[] all = new Call[count];
        Arrays.fill(all, call);
        return all;
    }

    private static Call[] prices(int... cents) {
        Call[] all = new Call[cents.length];
        for (int id = 0; id < all.length; id++) {
            all[id] = articleOf(id, cents[id], 0);
        }
        return all;
    }

    private static Call[] set(int offer, int set, int... articles) {
        Call[] all = new Call[articles.length];
        for (int k = 0; k < all.length; k++) {
            all[k] = memberOf(offer, set, articles[k], true);
        }
        return all;
    }

    /** A running offer with these articles in set 0. */
    private static Call[] running(int id, int kind, int n, int value, int most, int... articles) {
        return calls(offerOf(id, kind, n, value, most), runOf(id, true), set(id, 0, articles));
    }

    private static final Call[] NEW = {};

    private static Call[] twoFor150() {
        return running(0, 0, 2, 150, 0, 0, 1);
    }

    /** Two receipts: 250 for articles 7, 1, 0 with a use of 1 and 0, and 100 for article 7. */
    private static Call[] twoReceipts() {
        return calls(twoFor150(), scans(7, 1, 0), finishOf(250), scans(7), finishOf(100));
    }

    private static Call[] twelveReceipts() {
        Call[] all = twoFor150();
        for (int n = 0; n < 12; n++) {
            all = calls(all, scans(n), finishOf(100));
        }
        return all;
    }

    // ---- promise 1

    private static void newObject() {
        says("At first all cost 100 cents");
        for (int article = 0; article < 12; article++) {
            due(100, scans(article), totalOf(0));
        }
        says("At first all are of class 0");
        for (int article = 0; article < 12; article++) {
            int asked = article;
            for (int taxClass = 1; taxClass < 4; taxClass++) {
                int other = taxClass;
                due(0, scans(asked), t -> t.tax(other));
            }
        }
        newOffers();
        says("Promise 1: an empty basket");
        due(0, NEW, totalOf(0));
        due(0, NEW, totalOf(1));
        due(0, NEW, totalOf(2));
        refused(INDEX, NEW, unitOf(0, 0));
        says("Promise 1: no receipts");
        due(0, NEW, receiptOf(0, 4));
        refused(INDEX, NEW, receiptOf(0, 0));
        says("Promise 1: an empty drawer");
        due(0, NEW, receiptOf(0, 5));
        says("NONE = -1");
        due(-1, NEW, t -> PromotionTill.NONE);
    }

    private static void newOffers() {
        for (int offer = 0; offer < 6; offer++) {
            int id = offer;
            Call[] asNew = calls(prices(100, 300), set(id, 0, 0, 1));
            says("Promise 1: none running, offer " + id);
            due(400, calls(asNew, scans(0, 1)), totalOf(0));
            says("Promise 1: kind 0, value 0, offer " + id);
            due(0, calls(asNew, runOf(id, true), scans(0, 1)), totalOf(0));
            says("Promise 1: n 2, offer " + id);
            due(100, calls(asNew, runOf(id, true), scans(0)), totalOf(0));
            due(1, calls(asNew, runOf(id, true), scans(0, 0)), totalOf(2));
            due(1, calls(asNew, runOf(id, true), scans(0, 0, 0)), totalOf(2));
            says("Promise 1: most 0, offer " + id);
            due(5, calls(asNew, runOf(id, true), times(10, scanOf(0))), totalOf(2));
            says("Promise 1: empty sets, offer " + id);
            due(1000, calls(runOf(id, true), scans(0, 1, 2, 3, 4, 5, 6, 7, 8, 9)), totalOf(0));
            due(200, calls(runOf(id, true), scans(10, 11)), totalOf(0));
            for (int empty = 0; empty < 4; empty++) {
                due(0, calls(allSetsBut(id, empty), scans(0, 0, 0, 0, 5, 5, 11, 11)), totalOf(2));
            }
        }
    }

    private static Call[] allSetsBut(int id, int empty) {
        Call[] all = calls(offerOf(id, 2, 4, 0, 0), runOf(id, true));
        for (int set = 0; set < 4; set++) {
            if (set != empty) {
                all = calls(all, set(id, set, 0, 5, 11));
            }
        }
        return all;
    }

    // ---- promise 2

    private static void article() {
        says("ARTICLES 0 .. 11 (article)");
        due(7, calls(articleOf(0, 7, 0), scans(0)), totalOf(0));
        due(7, calls(articleOf(11, 7, 0), scans(11)), totalOf(0));
        due(100, calls(articleOf(11, 7, 0), scans(10)), totalOf(0));
        says("Promise 2: IllegalArgumentException if the id is not as it must be");
        for (int id : NO_ARTICLES) {
            refused(ARGUMENT, NEW, articleOf(id, 5, 1));
        }
        says("a PRICE 1 .. 100000");
        due(1, calls(articleOf(3, 1, 0), scans(3)), totalOf(0));
        due(100000, calls(articleOf(3, 100000, 0), scans(3)), totalOf(0));
        says("Promise 2: IllegalArgumentException if the cents are not as they must be");
        for (int cents : new int[] {0, -1, -100, 100001, LOW, HIGH}) {
            refused(ARGUMENT, NEW, articleOf(0, cents, 1));
        }
        says("a TAX CLASS 0 .. 3 (0, 7, 19, 25 percent, which are inside the price)");
        int[] whole = {100, 107, 119, 125};
        int[] taxes = {0, 7, 19, 25};
        for (int taxClass = 0; taxClass < 4; taxClass++) {
            int asked = taxClass;
            due(taxes[asked], calls(articleOf(0, whole[asked], asked), scans(0)),
                    t -> t.tax(asked));
            due(whole[asked], calls(articleOf(0, whole[asked], asked), scans(0)), totalOf(0));
        }
        says("Promise 2: IllegalArgumentException if the tax class is not as it must be");
        for (int taxClass : new int[] {-1, 4, LOW, HIGH}) {
            refused(ARGUMENT, NEW, articleOf(0, 5, taxClass));
        }
        says("Promise 2: IllegalStateException if the basket isn't empty");
        refused(STATE, scans(0), articleOf(0, 5, 1));
        refused(STATE, scans(1), articleOf(0, 5, 1));
        refused(STATE, times(10, scanOf(0)), articleOf(0, 5, 1));
        due(0, calls(scans(0), unscanOf(0)), articleOf(0, 5, 1));
        due(0, calls(scans(0), finishOf(100)), articleOf(0, 5, 1));
        says("Promise 2: of several exceptions the one that it names first");
        refused(ARGUMENT, scans(0), articleOf(12, 5, 1));
        refused(ARGUMENT, scans(0), articleOf(0, 0, 1));
        refused(ARGUMENT, scans(0), articleOf(0, 5, 4));
    }

    private static Call unscanOf(int i) {
        return t -> t.unscan(i);
    }

    // ---- promise 3

    private static void offer() {
        says("OFFERS 0 .. 5 (offer)");
        for (int id : new int[] {0, 5}) {
            due(150, calls(running(id, 0, 2, 150, 0, 0), scans(0, 0)), totalOf(0));
        }
        says("Promise 3: IllegalArgumentException if the id is not as it must be");
        for (int id : NO_OFFERS) {
            refused(ARGUMENT, twoFor150(), offerOf(id, 0, 2, 7, 1));
        }
        says("a KIND (0 to 3)");
        due(140, calls(prices(100, 60), running(0, 0, 2, 140, 0, 0, 1), scans(0, 1)), totalOf(0));
        due(130, calls(prices(100, 60), running(0, 3, 2, 50, 0, 0, 1), scans(0, 1)), totalOf(0));
        says("Promise 3: IllegalArgumentException if the kind is not as it must be");
        for (int kind : new int[] {-1, 4, LOW, HIGH}) {
            refused(ARGUMENT, twoFor150(), offerOf(0, kind, 2, 7, 1));
        }
        says("a number n 2 .. 4");
        due(1, calls(running(0, 0, 2, 1, 0, 0), scans(0, 0)), totalOf(0));
        due(1, calls(running(0, 0, 4, 1, 0, 0), scans(0, 0, 0, 0)), totalOf(0));
        says("Promise 3: IllegalArgumentException if n is not as it must be");
        for (int kind = 0; kind < 4; kind++) {
            for (int n : new int[] {1, 0, -1, 5, LOW, HIGH}) {
                refused(ARGUMENT, twoFor150(), offerOf(0, kind, n, 7, 1));
            }
        }
        offerValueAndMost();
        says("Promise 3: its sets stay");
        Call[] sets = calls(set(0, 0, 0), set(0, 1, 1), set(0, 2, 2), set(0, 3, 3));
        due(9, calls(sets, offerOf(0, 2, 4, 9, 0), runOf(0, true), scans(0, 1, 2, 3)), totalOf(0));
        due(409, calls(sets, offerOf(0, 0, 2, 9, 0), runOf(0, true), scans(0, 0, 1, 1, 2, 3)),
                totalOf(0));
        says("Promise 3: IllegalStateException if the basket isn't empty");
        refused(STATE, calls(twoFor150(), scans(0)), offerOf(0, 0, 2, 7, 1));
        refused(STATE, calls(twoFor150(), scans(9)), offerOf(5, 0, 2, 7, 1));
        refused(STATE, calls(twoFor150(), times(10, scanOf(0))), offerOf(0, 0, 2, 7, 1));
        due(0, calls(twoFor150(), scans(0), unscanOf(0)), offerOf(0, 0, 2, 7, 1));
        due(0, calls(twoFor150(), scans(0), finishOf(100)), offerOf(0, 0, 2, 7, 1));
        says("Promise 3: of several exceptions the one that it names first");
        refused(ARGUMENT, calls(twoFor150(), scans(0)), offerOf(6, 0, 2, 7, 1));
        refused(ARGUMENT, calls(twoFor150(), scans(0)), offerOf(0, 4, 2, 7, 1));
        refused(ARGUMENT, calls(twoFor150(), scans(0)), offerOf(0, 0, 1, 7, 1));
        refused(ARGUMENT, calls(twoFor150(), scans(0)), offerOf(0, 0, 2, -1, 1));
        refused(ARGUMENT, calls(twoFor150(), scans(0)), offerOf(0, 0, 2, 7, 6));
    }

    private static void offerValueAndMost() {
        says("a VALUE 0 .. 400000");
        due(0, calls(running(0, 0, 2, 0, 0, 0), scans(0, 0)), totalOf(0));
        due(399999, calls(prices(100000), running(0, 0, 4, 399999, 0, 0), scans(0, 0, 0, 0)),
                totalOf(0));
        due(400000, calls(prices(100000), running(0, 0, 4, 400000, 0, 0), scans(0, 0, 0, 0)),
                totalOf(0));
        says("Promise 3: IllegalArgumentException if the value is not as it must be");
        for (int kind = 0; kind < 4; kind++) {
            for (int value : new int[] {-1, 400001, LOW, HIGH}) {
                refused(ARGUMENT, twoFor150(), offerOf(0, kind, 2, value, 1));
            }
        }
        says("MOST 0 .. 5");
        for (int most : new int[] {0, 5}) {
            due(0, NEW, offerOf(0, 0, 2, 0, most));
        }
        says("Promise 3: IllegalArgumentException if most is not as it must be");
        for (int most : new int[] {-1, 6, LOW, HIGH}) {
            refused(ARGUMENT, twoFor150(), offerOf(0, 0, 2, 7, most));
        }
    }

    // ---- promise 4

    private static void member() {
        says("SETS 0 .. 3 of articles");
        for (int set = 0; set < 4; set++) {
            Call[] others = calls(offerOf(0, 2, 4, 0, 0), runOf(0, true));
            for (int other = 0; other < 4; other++) {
                others = other == set ? others : calls(others, set(0, other, 5));
            }
            due(0, calls(others, set(0, set, 7), scans(5, 5, 5, 7)), totalOf(0));
        }
        says("Promise 4: an article gets into a set of an offer");
        for (int offer : new int[] {0, 5}) {
            for (int article : new int[] {0, 11}) {
                due(0, calls(runOf(offer, true), set(offer, 0, article), scans(article, article)),
                        totalOf(0));
                due(200, calls(runOf(offer, true), set(offer, 0, article), scans(5, 5)),
                        totalOf(0));
            }
        }
        due(0, calls(runOf(0, true), set(0, 0, 3, 3), scans(3, 3)), totalOf(0));
        says("Promise 4: or out of it");
        due(200, calls(twoFor150(), memberOf(0, 0, 1, false), scans(0, 1)), totalOf(0));
        due(150, calls(twoFor150(), memberOf(0, 0, 1, false), scans(0, 0)), totalOf(0));
        due(200, calls(twoFor150(), memberOf(0, 0, 5, false), scans(5, 5)), totalOf(0));
        due(200, calls(twoFor150(), times(2, memberOf(0, 0, 1, false)), scans(0, 1)), totalOf(0));
        due(150, calls(twoFor150(), memberOf(0, 1, 1, false), scans(0, 1)), totalOf(0));
        says("Promise 4: IllegalArgumentException if there is no such offer");
        for (int offer : NO_OFFERS) {
            refused(ARGUMENT, twoFor150(), memberOf(offer, 0, 2, true));
            refused(ARGUMENT, twoFor150(), memberOf(offer, 0, 0, false));
        }
        says("Promise 4: IllegalArgumentException if there is no such set");
        for (int set : NO_SETS) {
            refused(ARGUMENT, twoFor150(), memberOf(0, set, 2, true));
            refused(ARGUMENT, twoFor150(), memberOf(0, set, 0, false));
        }
        says("Promise 4: IllegalArgumentException if there is no such article");
        for (int article : NO_ARTICLES) {
            refused(ARGUMENT, twoFor150(), memberOf(0, 0, article, true));
            refused(ARGUMENT, twoFor150(), memberOf(0, 0, article, false));
        }
        says("Promise 4: IllegalStateException if the basket isn't empty");
        refused(STATE, calls(twoFor150(), scans(0)), memberOf(0, 0, 1, false));
        refused(STATE, calls(twoFor150(), scans(9)), memberOf(0, 0, 2, true));
        refused(STATE, calls(twoFor150(), times(10, scanOf(0))), memberOf(0, 0, 2, true));
        due(0, calls(twoFor150(), scans(0), unscanOf(0)), memberOf(0, 0, 2, true));
        due(0, calls(twoFor150(), scans(0), finishOf(100)), memberOf(0, 0, 2, true));
        says("Promise 4: of several exceptions the one that it names first");
        refused(ARGUMENT, calls(twoFor150(), scans(0)), memberOf(6, 0, 2, true));
        refused(ARGUMENT, calls(twoFor150(), scans(0)), memberOf(0, 4, 2, true));
        refused(ARGUMENT, calls(twoFor150(), scans(0)), memberOf(0, 0, 12, true));
    }

    // ---- promise 5

    private static void run() {
        says("Promise 5: an offer runs");
        for (int offer : new int[] {0, 5}) {
            Call[] made = calls(offerOf(offer, 0, 2, 30, 0), set(offer, 0, 0));
            due(200, calls(made, scans(0, 0)), totalOf(0));
            due(30, calls(made, runOf(offer, true), scans(0, 0)), totalOf(0));
            due(30, calls(made, times(2, runOf(offer, true)), scans(0, 0)), totalOf(0));
        }
        says("Promise 5: or doesn't");
        due(200, calls(twoFor150(), runOf(0, false), scans(0, 1)), totalOf(0));
        due(200, calls(twoFor150(), times(2, runOf(0, false)), scans(0, 1)), totalOf(0));
        due(150, calls(twoFor150(), runOf(0, false), runOf(0, true), scans(0, 1)), totalOf(0));
        due(150, calls(twoFor150(), runOf(1, false), scans(0, 1)), totalOf(0));
        says("Promise 5: IllegalArgumentException if there is none such");
        for (int offer : NO_OFFERS) {
            refused(ARGUMENT, twoFor150(), runOf(offer, true));
            refused(ARGUMENT, twoFor150(), runOf(offer, false));
        }
        says("Promise 5: IllegalStateException if the basket isn't empty");
        refused(STATE, calls(twoFor150(), scans(0)), runOf(0, false));
        refused(STATE, calls(twoFor150(), scans(9)), runOf(0, true));
        refused(STATE, calls(twoFor150(), times(10, scanOf(0))), runOf(0, false));
        due(0, calls(twoFor150(), scans(0), unscanOf(0)), runOf(0, false));
        due(0, calls(twoFor150(), scans(0), finishOf(100)), runOf(0, false));
        says("Promise 5: of several exceptions the one that it names first");
        refused(ARGUMENT, calls(twoFor150(), scans(0)), runOf(6, true));
        refused(ARGUMENT, calls(twoFor150(), scans(0)), runOf(-1, false));
    }

    // ---- promise 6

    private static void scan() {
        says("Promise 6: one more unit: how many");
        for (int count = 0; count < 10; count++) {
            due(count + 1, times(count, scanOf(4)), scanOf(4));
        }
        says("Promise 6: the offers are applied to the new unit too");
        due(150, calls(twoFor150(), scans(0), totalOf(0), scanOf(1)), totalOf(0));
        due(0, calls(twoFor150(), scans(0), unitOf(0, 1), scanOf(1)), unitOf(0, 1));
        says("ARTICLES 0 .. 11 (scan)");
        due(0, scans(0), unitOf(0, 0));
        due(11, scans(11), unitOf(0, 0));
        says("Promise 6: IllegalArgumentException if there is no such article");
        for (int article : NO_ARTICLES) {
            refused(ARGUMENT, twoFor150(), scanOf(article));
            refused(ARGUMENT, calls(twoFor150(), scans(0, 1, 7)), scanOf(article));
        }
        says("Promise 6: UnsupportedOperationException if there are ten");
        refused(UNSUPPORTED, times(10, scanOf(0)), scanOf(0));
        refused(UNSUPPORTED, calls(twoFor150(), scans(0, 1, 2, 3, 4, 5, 6, 7, 8, 9)), scanOf(10));
        due(10, calls(times(10, scanOf(0)), unscanOf(3)), scanOf(0));
        due(1, calls(times(10, scanOf(0)), finishOf(1000)), scanOf(0));
        says("Promise 6: of several exceptions the one that it names first");
        refused(ARGUMENT, times(10, scanOf(0)), scanOf(12));
        refused(ARGUMENT, times(10, scanOf(0)), scanOf(-1));
        refused(ARGUMENT, roomOf216(), scanOf(12));
        refused(ARGUMENT, calls(fullRoom(), scans(6)), scanOf(12));
    }

    /** Three running offers with most 5: 216. Articles 0 and 1 are in set 0 of offer 0. */
    private static Call[] roomOf216() {
        return calls(running(0, 0, 2, 100, 5, 0, 1), running(1, 0, 2, 100, 5),
                running(2, 0, 2, 100, 5));
    }

    /** Three running offers with most 4: 125. Articles 0 to 3 are in set 0 of offer 0. */
    private static Call[] roomOf125() {
        return calls(running(0, 0, 2, 100, 4, 0, 1, 2, 3), running(1, 0, 2, 100, 4),
                running(2, 0, 2, 100, 4));
    }

    /** 1, 1, 1 and 2 units beside the offers: 125 * 24 is 3000. */
    private static Call[] fullRoom() {
        return calls(roomOf125(), scans(0, 1, 2, 3, 3));
    }

    private static void room() {
        says("ROOM may be at most 3000");
        due(6, calls(roomOf216(), times(5, scanOf(0))), scanOf(0));
        due(7, calls(roomOf216(), times(6, scanOf(0))), scanOf(0));
        due(2, calls(roomOf216(), scans(0)), scanOf(1));
        Call[] one = calls(fullRoom(), unscanOf(4));
        due(5, one, scanOf(3));
        says("Promise 6: UnsupportedOperationException if the room would not do");
        refused(UNSUPPORTED, calls(roomOf216(), times(6, scanOf(0))), scanOf(1));
        refused(UNSUPPORTED, fullRoom(), scanOf(3));
        refused(UNSUPPORTED, fullRoom(), scanOf(0));
        says("ROOM: an offer with a most counts even if no unit of the basket is in its sets");
        Call[] five = calls(roomOf216(), running(3, 0, 2, 100, 5), running(4, 0, 2, 100, 5));
        refused(UNSUPPORTED, five, scanOf(0));
        refused(UNSUPPORTED, five, scanOf(9));
        refused(UNSUPPORTED, calls(five, running(5, 0, 2, 100, 5)), scanOf(9));
        due(1, calls(roomOf216(), running(3, 0, 2, 100, 5)), scanOf(9));
        says("ROOM: over the articles of the basket that are in a running offer's sets");
        due(6, fullRoom(), scanOf(4));
        due(10, calls(fullRoom(), scans(4, 4, 5, 6)), scanOf(4));
        Call[] still = calls(offerOf(3, 0, 2, 0, 5), set(3, 0, 4), fullRoom());
        due(6, still, scanOf(4));
        says("ROOM: those that its kind looks at");
        due(6, calls(set(0, 1, 4), set(0, 2, 4), set(0, 3, 4), fullRoom()), scanOf(4));
        for (int kind = 0; kind < 4; kind++) {
            int looks = kind == 2 ? 3 : 1;
            for (int set = 0; set < 4; set++) {
                Call[] other = calls(fullRoomBut(kind), set(1, set, 4), scans(0, 1, 2, 3, 3));
                if (set < looks) {
                    refused(UNSUPPORTED, other, scanOf(4));
                } else {
                    due(6, other, scanOf(4));
                }
            }
        }
        says("ROOM: (most and 1) over the running offers with a most");
        Call[] free = calls(offerOf(5, 0, 2, 0, 0), runOf(5, true), fullRoom());
        due(6, free, scanOf(9));
        due(5, calls(running(3, 0, 2, 100, 5), runOf(3, false), one), scanOf(3));
        Call[] three = calls(roomOf125(), scans(0, 1, 2));
        due(4, three, scanOf(3));
        refused(UNSUPPORTED, calls(running(3, 0, 2, 100, 1), three), scanOf(3));
        says("ROOM: an article in the sets of two offers counts once");
        due(5, calls(set(1, 0, 0, 1, 2, 3), one), scanOf(3));
        says("ROOM: a unit that goes makes room");
        due(5, calls(fullRoom(), unscanOf(0)), scanOf(3));
        due(5, calls(fullRoom(), unscanOf(4)), scanOf(3));
    }

    /** As fullRoom before it is scanned, but offer 1 has this kind, with n 3. */
    private static Call[] fullRoomBut(int kind) {
        return calls(running(0, 0, 2, 100, 4, 0, 1, 2, 3), running(1, kind, 3, 100, 4),
                running(2, 0, 2, 100, 4));
    }

    // ---- promise 7

    private static void unscan() {
        says("Promise 7: unit i goes: its article");
        due(5, scans(5), unscanOf(0));
        due(3, scans(3, 4, 5), unscanOf(0));
        due(5, scans(3, 4, 5), unscanOf(2));
        due(9, scans(0, 1, 2, 3, 4, 5, 6, 7, 8, 9), unscanOf(9));
        due(4, calls(scans(3, 4, 5), unscanOf(0)), unitOf(0, 0));
        due(5, calls(scans(3, 4, 5), unscanOf(1)), unitOf(1, 0));
        due(200, calls(scans(3, 4, 5), unscanOf(2)), totalOf(1));
        says("Promise 7: the offers are applied to the units that are left");
        due(150, calls(twoFor150(), scans(0, 1, 1), unscanOf(2)), totalOf(0));
        due(100, calls(twoFor150(), scans(0, 1), totalOf(0), unscanOf(0)), totalOf(0));
        due(NONE, calls(twoFor150(), scans(0, 1), totalOf(0), unscanOf(0)), unitOf(0, 1));
        says("Promise 7: IndexOutOfBoundsException if there is none such");
        for (int i : new int[] {-1, 0, 1, LOW, HIGH}) {
            refused(INDEX, twoFor150(), unscanOf(i));
        }
        for (int i : new int[] {-1, 3, 10, LOW, HIGH}) {
            refused(INDEX, calls(twoFor150(), scans(0, 1, 7)), unscanOf(i));
        }
        for (int i : new int[] {-1, 10, LOW, HIGH}) {
            refused(INDEX, calls(twoFor150(), times(10, scanOf(0))), unscanOf(i));
        }
        refused(INDEX, calls(scans(0, 1), unscanOf(0)), unscanOf(1));
        refused(INDEX, calls(scans(0), finishOf(100)), unscanOf(0));
    }

    // ---- promise 8

    private static void total() {
        Call[] basket = calls(twoFor150(), scans(0, 0, 1, 7));
        says("Promise 8: the least total of the basket (0)");
        due(350, basket, totalOf(0));
        due(0, calls(twoFor150(), scans(0), unscanOf(0)), totalOf(0));
        due(1000000, calls(prices(100000), times(10, scanOf(0))), totalOf(0));
        says("Promise 8: the prices of its units together (1)");
        due(400, basket, totalOf(1));
        due(0, calls(twoFor150(), scans(0), unscanOf(0)), totalOf(1));
        due(1000000, calls(prices(100000), times(10, scanOf(0))), totalOf(1));
        says("Promise 8: how many uses the plan has (2)");
        due(1, basket, totalOf(2));
        due(0, calls(twoFor150(), scans(0), unscanOf(0)), totalOf(2));
        due(0, calls(twoFor150(), scans(0)), totalOf(2));
        due(5, calls(twoFor150(), times(10, scanOf(1))), totalOf(2));
        says("Promise 8: IllegalArgumentException for another what");
        for (int what : new int[] {-1, 3, LOW, HIGH}) {
            refused(ARGUMENT, twoFor150(), totalOf(what));
            refused(ARGUMENT, basket, totalOf(what));
        }
        says("Promise 8: an empty basket has a total though the offers alone are beyond the room");
        Call[] beyond = roomOf216();
        for (int offer = 3; offer < 6; offer++) {
            beyond = calls(beyond, running(offer, 0, 2, 100, 5));
        }
        for (int what = 0; what < 3; what++) {
            due(0, beyond, totalOf(what));
        }
    }

    // ---- promise 9

    private static void unit() {
        Call[] basket = calls(twoFor150(), scans(7, 1, 0));
        int[][] answers = {{7, NONE, NONE, 100}, {1, 0, 0, 75}, {0, 0, 0, 75}};
        String[] whats = {"0 its article", "1 the offer of its use (NONE: alone)",
            "2 the number of its use (NONE)", "3 what it pays"};
        for (int what = 0; what < 4; what++) {
            says("Promise 9: " + whats[what]);
            for (int i = 0; i < 3; i++) {
                due(answers[i][what], basket, unitOf(i, what));
            }
        }
        due(5, calls(running(5, 0, 2, 1, 0, 0), scans(0, 0)), unitOf(0, 1));
        says("Promise 9: IndexOutOfBoundsException if there is none such");
        for (int what = 0; what < 4; what++) {
            for (int i : new int[] {-1, 3, 10, LOW, HIGH}) {
                refused(INDEX, basket, unitOf(i, what));
            }
            refused(INDEX, twoFor150(), unitOf(0, what));
            refused(INDEX, calls(twoFor150(), times(10, scanOf(0))), unitOf(10, what));
            refused(INDEX, calls(basket, finishOf(250)), unitOf(0, what));
            refused(INDEX, calls(basket, unscanOf(0)), unitOf(2, what));
        }
        says("Promise 9: IllegalArgumentException for another what");
        for (int what : new int[] {-1, 4, LOW, HIGH}) {
            refused(ARGUMENT, basket, unitOf(0, what));
        }
        says("Promise 9: of several exceptions the one that it names first");
        refused(INDEX, basket, unitOf(3, 4));
        refused(INDEX, basket, unitOf(-1, -1));
        refused(INDEX, NEW, unitOf(0, 4));
    }

    // ---- promise 10

    private static void tax() {
        says("Promise 10: half a cent up (less than half: down)");
        // 53 of 107, 59 of 119 and 2 of 5 are left. Just half is never left, as these are odd.
        int[][] down = {{1, 84, 5}, {2, 72, 11}, {3, 2, 0}};
        for (int[] d : down) {
            due(d[2], calls(articleOf(0, d[1], d[0]), scans(0)), t -> t.tax(d[0]));
        }
        says("Promise 10: half a cent up (more than half: up)");
        // 54 of 107, 60 of 119 and 3 of 5 are left.
        int[][] up = {{1, 23, 2}, {2, 47, 8}, {3, 3, 1}};
        for (int[] u : up) {
            due(u[2], calls(articleOf(0, u[1], u[0]), scans(0)), t -> t.tax(u[0]));
        }
        says("Promise 10: that sum times the percentage, divided by 100 and the percentage");
        for (int cents = 1; cents <= 250; cents++) {
            int taxClass = 1 + cents % 3;
            due(nearest(taxClass, cents), calls(articleOf(0, cents, taxClass), scans(0)),
                    t -> t.tax(taxClass));
        }
        says("Promise 10: inside what the basket's units of that class pay");
        Call[] mixed = calls(twoFor150(), articleOf(0, 100, 1), articleOf(1, 100, 2));
        due(5, calls(mixed, scans(0, 1)), t -> t.tax(1));
        due(12, calls(mixed, scans(0, 1)), t -> t.tax(2));
        due(0, calls(mixed, scans(0, 1)), t -> t.tax(3));
        due(2, calls(articleOf(0, 2, 3), times(5, scanOf(0))), t -> t.tax(3));
        due(0, calls(articleOf(0, 2, 3), runOf(0, true), set(0, 0, 0), scans(0, 0)),
                t -> t.tax(3));
        says("Promise 10: the tax of an empty basket is 0");
        for (int taxClass = 0; taxClass < 4; taxClass++) {
            int asked = taxClass;
            due(0, NEW, t -> t.tax(asked));
            due(0, calls(articleOf(0, 1000, asked), scans(0), unscanOf(0)), t -> t.tax(asked));
            due(0, calls(articleOf(0, 1000, asked), scans(0), finishOf(1000)), t -> t.tax(asked));
        }
        says("Promise 10: the tax of the dearest basket");
        int[] greatest = {0, 65421, 159664, 200000};
        for (int taxClass = 0; taxClass < 4; taxClass++) {
            int asked = taxClass;
            due(greatest[asked], calls(articleOf(0, 100000, asked), times(10, scanOf(0))),
                    t -> t.tax(asked));
        }
        says("Promise 10: IllegalArgumentException for another class");
        for (int taxClass : new int[] {-1, 4, LOW, HIGH}) {
            refused(ARGUMENT, NEW, t -> t.tax(taxClass));
            refused(ARGUMENT, calls(twoFor150(), scans(0, 1)), t -> t.tax(taxClass));
        }
    }

    private static int nearest(int taxClass, int cents) {
        int percent = new int[] {0, 7, 19, 25}[taxClass];
        int down = cents * percent / (100 + percent);
        int rest = cents * percent % (100 + percent);
        return rest >= 100 + percent - rest ? down + 1 : down;
    }

    // ---- promise 11

    private static Call tryOf(int offer) {
        return t -> t.tryOffer(offer);
    }

    private static void tryOffer() {
        Call[] made = calls(twoFor150(), offerOf(5, 0, 2, 120, 0), set(5, 0, 0, 1));
        says("Promise 11: the least total of the basket if the offer ran as well");
        due(120, calls(made, scans(0, 1)), tryOf(5));
        due(320, calls(made, scans(0, 7, 1, 0)), tryOf(5));
        says("Promise 11: or, if it runs, if it didn't");
        due(200, calls(made, scans(0, 1)), tryOf(0));
        due(200, calls(made, runOf(5, true), runOf(0, false), scans(0, 1)), tryOf(5));
        says("Promise 11: it is only tried");
        due(150, calls(made, scans(0, 1), tryOf(5)), totalOf(0));
        due(150, calls(made, scans(0, 1), tryOf(0)), totalOf(0));
        due(0, calls(made, scans(0, 1), totalOf(0), tryOf(5)), unitOf(0, 1));
        due(0, calls(made, scans(0, 1), tryOf(5)), unitOf(0, 1));
        due(120, calls(made, scans(0, 1), tryOf(5)), tryOf(5));
        says("Promise 11: an empty basket");
        due(0, made, tryOf(0));
        due(0, made, tryOf(5));
        says("Promise 11: an offer with empty sets");
        due(150, calls(made, scans(0, 1)), tryOf(3));
        says("Promise 11: IllegalArgumentException if there is no such offer");
        for (int offer : NO_OFFERS) {
            refused(ARGUMENT, made, tryOf(offer));
            refused(ARGUMENT, calls(made, scans(0, 1)), tryOf(offer));
        }
        tryOfferRoom();
    }

    private static void tryOfferRoom() {
        says("Promise 11: a room of 3000 does");
        Call[] most4 = calls(roomOf125(), runOf(2, false), scans(0, 1, 2, 3, 3));
        due(300, most4, tryOf(2));
        says("Promise 11: UnsupportedOperationException if the room would not do");
        Call[] most5 = calls(roomOf216(), runOf(2, false), times(6, scanOf(0)), scans(1));
        refused(UNSUPPORTED, most5, tryOf(2));
        due(300, calls(most5, unscanOf(6)), tryOf(2));
        says("Promise 11: the room grows by the articles of the sets of the offer that is tried");
        Call[] sets = calls(offerOf(5, 0, 2, 0, 0), set(5, 0, 8, 9), fullRoom());
        due(400, calls(sets, scans(7)), tryOf(5));
        refused(UNSUPPORTED, calls(sets, scans(8)), tryOf(5));
        says("Promise 11: the room goes down if the offer didn't run");
        due(300, fullRoom(), tryOf(1));
        due(500, fullRoom(), tryOf(0));
        says("Promise 11: of several exceptions the one that it names first");
        refused(ARGUMENT, most5, tryOf(6));
        refused(ARGUMENT, most5, tryOf(-1));
    }

    // ---- promise 12

    private static void finish() {
        Call[] basket = calls(twoFor150(), scans(0, 1));
        says("Promise 12: the basket is paid in cash and finished: the change");
        due(0, basket, finishOf(150));
        due(1, basket, finishOf(151));
        due(HIGH - 150, basket, finishOf(HIGH));
        due(0, calls(runOf(0, true), set(0, 0, 0), scans(0, 0)), finishOf(0));
        due(HIGH, calls(runOf(0, true), set(0, 0, 0), scans(0, 0)), finishOf(HIGH));
        says("Promise 12: the basket is empty behind it");
        due(0, calls(basket, finishOf(150)), totalOf(0));
        due(0, calls(basket, finishOf(150)), totalOf(1));
        due(0, calls(basket, finishOf(150)), totalOf(2));
        due(1, calls(basket, finishOf(150)), scanOf(0));
        due(100, calls(basket, finishOf(150), scans(0)), totalOf(0));
        says("Promise 12: the drawer gets the total");
        due(150, calls(basket, finishOf(150)), receiptOf(0, 5));
        due(150, calls(basket, finishOf(HIGH)), receiptOf(0, 5));
        due(250, calls(basket, finishOf(150), scans(0), finishOf(1000)), receiptOf(0, 5));
        Call[] dearest = prices(100000);
        for (int n = 0; n < 12; n++) {
            dearest = calls(dearest, times(10, scanOf(0)), finishOf(1000000));
        }
        due(12000000, dearest, receiptOf(0, 5));
        says("Promise 12: IllegalStateException if the basket is empty");
        refused(STATE, NEW, finishOf(0));
        refused(STATE, twoFor150(), finishOf(HIGH));
        refused(STATE, calls(basket, finishOf(150)), finishOf(150));
        refused(STATE, calls(scans(0), unscanOf(0)), finishOf(100));
        says("Promise 12: IllegalArgumentException if cents are below the total");
        for (int cents : new int[] {149, 0, -1, LOW}) {
            refused(ARGUMENT, basket, finishOf(cents));
        }
        refused(ARGUMENT, calls(runOf(0, true), set(0, 0, 0), scans(0, 0)), finishOf(-1));
        says("at most 12 receipts");
        due(12, twelveReceipts(), receiptOf(0, 4));
        says("Promise 12: UnsupportedOperationException if there are 12 receipts");
        refused(UNSUPPORTED, calls(twelveReceipts(), scans(0)), finishOf(100));
        refused(UNSUPPORTED, calls(twelveReceipts(), scans(0, 1)), finishOf(HIGH));
        refused(UNSUPPORTED, calls(twelveReceipts(), backOf(0, 0), scans(0)), finishOf(100));
        says("Promise 12: of several exceptions the one that it names first");
        refused(STATE, NEW, finishOf(-1));
        refused(STATE, twelveReceipts(), finishOf(-1));
        refused(STATE, twelveReceipts(), finishOf(100));
        refused(ARGUMENT, calls(twelveReceipts(), scans(0)), finishOf(99));
    }

    // ---- promise 13

    private static void giveBack() {
        says("Promise 13: what is paid out now (the drawer loses it)");
        due(100, twoReceipts(), backOf(0, 0));
        due(250, calls(twoReceipts(), backOf(0, 0)), receiptOf(0, 5));
        due(100, twoReceipts(), backOf(1, 0));
        due(250, calls(twoReceipts(), backOf(1, 0)), receiptOf(0, 5));
        due(50, twoReceipts(), backOf(0, 2));
        due(0, calls(twoReceipts(), backOf(1, 0), backOf(0, 0), backOf(0, 1), backOf(0, 2)),
                receiptOf(0, 5));
        says("Promise 13: the first and the last unit of the first and the last receipt");
        due(100, twelveReceipts(), backOf(0, 0));
        due(100, twelveReceipts(), backOf(11, 0));
        due(100, calls(times(10, scanOf(3)), finishOf(1000)), backOf(0, 9));
        says("Promise 13: IndexOutOfBoundsException if there is no such receipt");
        for (int n : new int[] {-1, 2, 12, LOW, HIGH}) {
            refused(INDEX, twoReceipts(), backOf(n, 0));
        }
        refused(INDEX, NEW, backOf(0, 0));
        refused(INDEX, twelveReceipts(), backOf(12, 0));
        refused(INDEX, calls(twoFor150(), scans(0)), backOf(0, 0));
        says("Promise 13: IndexOutOfBoundsException if there is no such unit");
        for (int i : new int[] {-1, 3, 10, LOW, HIGH}) {
            refused(INDEX, twoReceipts(), backOf(0, i));
        }
        refused(INDEX, twoReceipts(), backOf(1, 1));
        refused(INDEX, calls(times(10, scanOf(3)), finishOf(1000)), backOf(0, 10));
        says("Units of a receipt can be GIVEN BACK, each once (IllegalStateException)");
        for (int i = 0; i < 3; i++) {
            refused(STATE, calls(twoReceipts(), backOf(0, i)), backOf(0, i));
        }
        Call[] all = calls(twoReceipts(), backOf(0, 0), backOf(0, 1), backOf(0, 2));
        refused(STATE, all, backOf(0, 1));
        due(100, all, backOf(1, 0));
        due(50, calls(twoReceipts(), backOf(0, 0)), backOf(0, 1));
        says("Promise 13: of several exceptions the one that it names first");
        refused(INDEX, all, backOf(0, 3));
        refused(INDEX, all, backOf(2, 0));
        says("Promise 13: a basket that is being scanned stays as it is");
        due(250, calls(twoReceipts(), scans(0, 1, 7), backOf(0, 0)), totalOf(0));
        due(1, calls(twoReceipts(), scans(0, 1, 7), totalOf(0), backOf(0, 2)), unitOf(1, 0));
        due(75, calls(twoReceipts(), scans(0, 1, 7), totalOf(0), backOf(0, 2)), unitOf(1, 3));
    }

    private static void refund() {
        Call[] three = calls(running(0, 0, 2, 50, 0, 0), scans(0, 0, 0), finishOf(150));
        says("REFUND: what was paid less the least total of the units that are kept");
        due(100, three, backOf(0, 1));
        due(100, calls(three, backOf(0, 1)), receiptOf(0, 1));
        says("REFUND: the greatest value so far");
        due(0, calls(three, backOf(0, 1)), backOf(0, 0));
        due(100, calls(three, backOf(0, 1), backOf(0, 0)), receiptOf(0, 1));
        due(50, calls(three, backOf(0, 1), backOf(0, 0)), backOf(0, 2));
        due(150, calls(three, backOf(0, 1), backOf(0, 0), backOf(0, 2)), receiptOf(0, 1));
        says("REFUND: nothing is asked back if the kept units are dearer than what was paid");
        Call[] bundle = calls(running(0, 0, 3, 100, 0, 0), scans(0, 0, 0), finishOf(100));
        due(0, bundle, backOf(0, 0));
        due(0, calls(bundle, backOf(0, 0)), receiptOf(0, 1));
        due(100, calls(bundle, backOf(0, 0)), receiptOf(0, 5));
        due(0, calls(bundle, backOf(0, 0)), backOf(0, 1));
        due(100, calls(bundle, backOf(0, 0), backOf(0, 1)), backOf(0, 2));
        says("REFUND: by the receipt's prices and offers");
        Call[] paid = calls(prices(100, 100, 300), running(0, 0, 2, 120, 0, 0, 1), scans(0, 1, 2),
                finishOf(420));
        due(300, calls(paid, articleOf(2, 9, 0)), backOf(0, 2));
        due(20, calls(paid, articleOf(1, 9, 0)), backOf(0, 0));
        due(300, calls(paid, offerOf(0, 0, 2, 1, 0)), backOf(0, 2));
        due(300, calls(paid, offerOf(0, 1, 2, 120, 0)), backOf(0, 2));
        due(300, calls(paid, offerOf(0, 0, 3, 120, 0)), backOf(0, 2));
        due(300, calls(paid, memberOf(0, 0, 1, false)), backOf(0, 2));
        due(300, calls(paid, runOf(0, false)), backOf(0, 2));
        due(300, calls(paid, runOf(1, true), set(1, 0, 0, 1)), backOf(0, 2));
        Call[] once = calls(running(0, 0, 2, 120, 1, 0), scans(0, 0, 0, 0, 0), finishOf(420));
        due(100, calls(once, offerOf(0, 0, 2, 120, 0)), backOf(0, 0));
        says("REFUND: by the receipt's offers of each kind and n");
        Call[] free = calls(prices(100, 30), running(5, 1, 3, 7, 0, 0, 1));
        due(30, calls(free, scans(0, 0, 0, 1), finishOf(230)), backOf(0, 3));
        due(0, calls(free, scans(0, 0, 0), finishOf(200)), backOf(0, 0));
        Call[] menu = menuOf(0, 250, 0, 1, 2);
        due(100, calls(menu, scans(0, 1, 2, 2), finishOf(350)), backOf(0, 2));
        due(50, calls(menu, scans(0, 1, 2), finishOf(250)), backOf(0, 1));
        Call[] half = running(0, 3, 4, 50, 0, 0);
        due(100, calls(half, scans(0, 0, 0), finishOf(250)), backOf(0, 2));
        due(50, calls(half, scans(0, 0), finishOf(150)), backOf(0, 0));
        says("REFUND: of another receipt nothing changes");
        due(0, calls(twoReceipts(), backOf(0, 0)), receiptOf(1, 1));
        due(1, calls(twoReceipts(), backOf(0, 0)), receiptOf(1, 3));
    }

    // ---- promise 14

    private static void receipt() {
        Call[] made = calls(twoReceipts(), backOf(0, 0));
        int[][] answers = {{250, 100, 3, 2}, {100, 0, 1, 1}};
        String[] whats = {"0 what was paid", "1 what was refunded", "2 how many units it had",
            "3 how many are kept"};
        for (int what = 0; what < 4; what++) {
            says("Promise 14: " + whats[what]);
            for (int n = 0; n < 2; n++) {
                due(answers[n][what], made, receiptOf(n, what));
            }
        }
        due(0, calls(made, backOf(0, 1), backOf(0, 2)), receiptOf(0, 3));
        due(10, calls(times(10, scanOf(0)), finishOf(1000)), receiptOf(0, 3));
        says("Promise 14: how many receipts there are (4, whatever the receipt is)");
        for (int n : new int[] {-1, 0, 1, 2, 12, LOW, HIGH}) {
            due(2, made, receiptOf(n, 4));
            due(0, NEW, receiptOf(n, 4));
        }
        says("Promise 14: what the drawer has (5)");
        for (int n : new int[] {-1, 0, 1, 2, 12, LOW, HIGH}) {
            due(250, made, receiptOf(n, 5));
            due(0, NEW, receiptOf(n, 5));
        }
        says("Promise 14: IllegalArgumentException for another what");
        for (int what : new int[] {-1, 6, LOW, HIGH}) {
            refused(ARGUMENT, made, receiptOf(0, what));
        }
        says("Promise 14: IndexOutOfBoundsException if there is no such receipt (0 .. 3)");
        for (int what = 0; what < 4; what++) {
            for (int n : new int[] {-1, 2, 12, LOW, HIGH}) {
                refused(INDEX, made, receiptOf(n, what));
            }
            refused(INDEX, NEW, receiptOf(0, what));
            refused(INDEX, twelveReceipts(), receiptOf(12, what));
            refused(INDEX, scans(0), receiptOf(0, what));
        }
        due(100, twelveReceipts(), receiptOf(11, 0));
        says("Promise 14: of several exceptions the one that it names first");
        refused(ARGUMENT, made, receiptOf(2, 6));
        refused(ARGUMENT, made, receiptOf(-1, -1));
        refused(ARGUMENT, NEW, receiptOf(0, 6));
    }

    // ---- promise 15

    private static Call lineOf(int receipt, int i, int what) {
        return t -> t.line(receipt, i, what);
    }

    private static void line() {
        Call[] made = calls(twoReceipts(), backOf(0, 1));
        int[][] answers = {{7, NONE, 100, 1}, {1, 0, 75, 0}, {0, 0, 75, 1}};
        String[] whats = {"0 its article", "1 the offer of its use (NONE: alone)",
            "2 what it paid", "3 whether it is kept (1 or 0)"};
        for (int what = 0; what < 4; what++) {
            says("Promise 15: " + whats[what]);
            for (int i = 0; i < 3; i++) {
                due(answers[i][what], made, lineOf(0, i, what));
            }
            due(new int[] {7, NONE, 100, 1}[what], made, lineOf(1, 0, what));
        }
        says("A receipt has its lines as they were then");
        Call[] changed = calls(made, articleOf(0, 9, 0), runOf(0, false), scans(0, 0, 3));
        for (int what = 0; what < 4; what++) {
            due(answers[2][what], changed, lineOf(0, 2, what));
        }
        says("Promise 15: the first and the last line of the first and the last receipt");
        due(0, twelveReceipts(), lineOf(0, 0, 0));
        due(11, twelveReceipts(), lineOf(11, 0, 0));
        due(9, calls(scans(0, 1, 2, 3, 4, 5, 6, 7, 8, 9), finishOf(1000)), lineOf(0, 9, 0));
        says("Promise 15: IndexOutOfBoundsException if there is no such receipt");
        for (int what = 0; what < 4; what++) {
            for (int n : new int[] {-1, 2, 12, LOW, HIGH}) {
                refused(INDEX, made, lineOf(n, 0, what));
            }
            refused(INDEX, NEW, lineOf(0, 0, what));
            refused(INDEX, scans(0), lineOf(0, 0, what));
            refused(INDEX, twelveReceipts(), lineOf(12, 0, what));
        }
        says("Promise 15: IndexOutOfBoundsException if there is no such unit");
        for (int what = 0; what < 4; what++) {
            for (int i : new int[] {-1, 3, 10, LOW, HIGH}) {
                refused(INDEX, made, lineOf(0, i, what));
            }
            refused(INDEX, made, lineOf(1, 1, what));
            refused(INDEX, calls(times(10, scanOf(0)), finishOf(1000)), lineOf(0, 10, what));
        }
        says("Promise 15: IllegalArgumentException for another what");
        for (int what : new int[] {-1, 4, LOW, HIGH}) {
            refused(ARGUMENT, made, lineOf(0, 0, what));
        }
        says("Promise 15: of several exceptions the one that it names first");
        refused(INDEX, made, lineOf(2, 0, 4));
        refused(INDEX, made, lineOf(0, 3, 4));
        refused(INDEX, NEW, lineOf(0, 0, -1));
    }

    // ---- the terms: kinds

    private static void kinds() {
        says("kind 0: n of set 0, for the value in cents");
        for (int n = 2; n <= 4; n++) {
            Call[] made = running(0, 0, n, 7, 0, 0);
            due(100 * (n - 1), calls(made, times(n - 1, scanOf(0))), totalOf(0));
            due(7, calls(made, times(n, scanOf(0))), totalOf(0));
            due(107, calls(made, times(n + 1, scanOf(0))), totalOf(0));
        }
        says("kind 1: n of set 0, of which the cheapest one is free");
        for (int n = 2; n <= 4; n++) {
            Call[] made = calls(prices(100, 60), running(0, 1, n, 0, 0, 0, 1));
            due(100 * (n - 1), calls(made, times(n - 1, scanOf(0))), totalOf(0));
            due(100 * (n - 1), calls(made, times(n, scanOf(0))), totalOf(0));
            due(100 * (n - 1), calls(made, times(n - 1, scanOf(0)), scans(1)), totalOf(0));
            due(100 * (n - 1), calls(made, scans(1), times(n - 1, scanOf(0))), totalOf(0));
        }
        says("kind 1: the value counts for nothing");
        for (int value : new int[] {0, 1, 400000}) {
            due(100, calls(running(0, 1, 2, value, 0, 0), scans(0, 0)), totalOf(0));
        }
        says("kind 2: one of each of the sets 0 .. n - 1, for the value");
        for (int n = 2; n <= 4; n++) {
            Call[] made = calls(offerOf(0, 2, n, 7, 0), runOf(0, true), set(0, 0, 0),
                    set(0, 1, 1), set(0, 2, 2), set(0, 3, 3));
            due(7 + 100 * (4 - n), calls(made, scans(3, 2, 1, 0)), totalOf(0));
            for (int without = 0; without < 4; without++) {
                int want = without < n ? 300 : 7 + 100 * (3 - n);
                due(want, calls(made, scans(0, 1, 2, 3), unscanOf(without)), totalOf(0));
            }
        }
        says("kind 2: an article in two sets is wanted twice");
        Call[] twice = calls(offerOf(0, 2, 2, 7, 0), runOf(0, true), set(0, 0, 0), set(0, 1, 0));
        due(100, calls(twice, scans(0)), totalOf(0));
        due(7, calls(twice, scans(0, 0)), totalOf(0));
        kind3();
        says("a use whose cost is not below the prices is never needed");
        for (int kind = 0; kind <= 2; kind += 2) {
            for (int value : new int[] {199, 200, 201, 400000}) {
                Call[] made = calls(running(0, kind, 2, value, 0, 0), set(0, 1, 0), scans(0, 0));
                due(value < 200 ? 1 : 0, made, totalOf(2));
                due(Math.min(200, value), made, totalOf(0));
                due(value < 200 ? 0 : NONE, made, unitOf(0, 1));
            }
        }
        for (int value : new int[] {99, 100, 101}) {
            due(value < 100 ? 1 : 0, calls(running(0, 3, 2, value, 0, 0), scans(0, 0)), totalOf(2));
        }
    }

    private static void kind3() {
        says("kind 3: two of set 0, of which the cheaper one costs value percent of its price");
        Call[] prices = prices(200, 300);
        due(300, calls(prices, running(0, 3, 2, 0, 0, 0, 1), scans(0, 1)), totalOf(0));
        due(302, calls(prices, running(0, 3, 2, 1, 0, 0, 1), scans(1, 0)), totalOf(0));
        due(498, calls(prices, running(0, 3, 2, 99, 0, 0, 1), scans(0, 1)), totalOf(0));
        due(200, calls(prices, running(0, 3, 2, 0, 0, 0, 1), scans(0)), totalOf(0));
        says("kind 3: above 100: 100");
        for (int percent : new int[] {100, 101, 200, 400000}) {
            due(500, calls(prices, running(0, 3, 2, percent, 0, 0, 1), scans(0, 1)), totalOf(0));
            due(200000, calls(prices(100000), running(0, 3, 2, percent, 0, 0), scans(0, 0)),
                    totalOf(0));
        }
        says("kind 3: half a cent up");
        int[][] halves = {{1, 50, 1}, {3, 50, 2}, {1, 49, 0}, {1, 51, 1}, {50, 1, 1}, {49, 1, 0},
            {50, 99, 50}, {51, 99, 50}, {150, 33, 50}, {10, 5, 1}, {10, 4, 0}, {99999, 50, 50000}};
        for (int[] h : halves) {
            due(h[0] + h[2], calls(prices(h[0]), running(0, 3, 2, h[1], 0, 0), scans(0, 0)),
                    totalOf(0));
        }
        says("kind 3: n counts for nothing");
        for (int n = 2; n <= 4; n++) {
            Call[] made = calls(running(0, 3, n, 50, 0, 0), set(0, 1, 5), set(0, 2, 5));
            due(150, calls(made, scans(0, 0)), totalOf(0));
            due(2, calls(made, scans(0, 0, 0, 0)), totalOf(2));
            due(200, calls(made, scans(5, 5)), totalOf(0));
        }
    }

    private static void most() {
        says("MOST: how often in a basket");
        for (int most = 1; most <= 5; most++) {
            Call[] made = calls(running(0, 0, 2, 50, most, 0), times(10, scanOf(0)));
            due(most, made, totalOf(2));
            due(1000 - 150 * most, made, totalOf(0));
        }
        says("MOST: 0: as often as may be");
        due(5, calls(running(0, 0, 2, 50, 0, 0), times(10, scanOf(0))), totalOf(2));
        says("MOST: for each offer");
        Call[] two = calls(running(0, 0, 2, 50, 1, 0), running(1, 0, 2, 60, 2, 0),
                times(10, scanOf(0)));
        due(3, two, totalOf(2));
        due(1000 - 150 - 280, two, totalOf(0));
        plan(calls(running(0, 0, 2, 50, 1, 0), running(1, 0, 2, 50, 1, 0), scans(0, 0, 0, 0)), 1,
                0, 0, 1, 1);
        plan(calls(running(4, 0, 2, 50, 1, 0), running(5, 0, 2, 50, 1, 0), times(6, scanOf(0))), 1,
                NONE, NONE, 4, 4, 5, 5);
        says("MOST: in a basket, so the next one begins again");
        Call[] again = calls(running(0, 0, 2, 50, 1, 0), scans(0, 0), finishOf(50));
        due(50, calls(again, scans(0, 0)), totalOf(0));
        says("uses that have no unit in common");
        due(1, calls(running(0, 0, 2, 50, 0, 0), scans(0, 0, 0)), totalOf(2));
        due(1, calls(running(0, 0, 2, 50, 0, 0), running(1, 0, 2, 60, 0, 0), scans(0, 0)),
                totalOf(2));
        due(150, calls(running(0, 0, 2, 50, 0, 0), running(1, 0, 2, 60, 0, 0), scans(0, 0, 0)),
                totalOf(0));
    }

    // ---- the terms: the plan

    /** What unit(i, what) answers for all units of the basket. */
    private static void plan(Call[] setup, int what, int... wants) {
        for (int i = 0; i < wants.length; i++) {
            due(wants[i], setup, unitOf(i, what));
        }
    }

    /** A running offer of kind 2 with one article in each set. */
    private static Call[] menuOf(int id, int value, int... articles) {
        Call[] all = calls(offerOf(id, 2, articles.length, value, 0), runOf(id, true));
        for (int place = 0; place < articles.length; place++) {
            all = calls(all, set(id, place, articles[place]));
        }
        return all;
    }

    private static void orderOfWays() {
        says("the first of these ways: alone");
        plan(calls(running(0, 0, 2, 150, 0, 0, 1, 2), scans(0, 1, 2)), 2, NONE, 0, 0);
        plan(calls(running(0, 0, 2, 150, 0, 0, 1, 2), scans(2, 1, 0)), 2, 0, 0, NONE);
        says("behind which the total can be the least of all");
        plan(calls(prices(100, 100, 60), running(0, 0, 2, 120, 0, 0, 1, 2), scans(0, 1, 2)), 2,
                0, 0, NONE);
        plan(calls(prices(60, 100, 100), running(0, 0, 2, 120, 0, 0, 1, 2), scans(0, 1, 2)), 2,
                NONE, 0, 0);
        says("behind which the total can be the least of all: a later offer, a later list");
        plan(calls(running(0, 0, 2, 150, 0, 0), running(1, 0, 2, 140, 0, 0), scans(0, 0)), 1,
                1, 1);
        plan(calls(prices(300, 100, 200), running(0, 1, 2, 0, 1, 0, 1, 2), scans(0, 1, 2)), 1,
                0, NONE, 0);
        says("behind which the total can be the least of all: the second use");
        // Offers 0 and 2 save as much as 1 and 3, but 0 and 1 together save less.
        Call[] pairs = calls(menuOf(0, 190, 0, 1), menuOf(1, 195, 0, 2), menuOf(2, 180, 0, 3),
                menuOf(3, 275, 0, 1, 3), scans(0, 0, 1, 2, 3));
        due(470, pairs, totalOf(0));
        plan(pairs, 1, 0, 2, 0, NONE, 2);
        says("then uses of offer 0, 1, ..");
        for (int lesser = 0; lesser < 5; lesser++) {
            plan(calls(running(lesser + 1, 0, 2, 100, 0, 0), running(lesser, 1, 2, 0, 0, 0),
                    scans(0, 0)), 1, lesser, lesser);
        }
        says("an offer goes before lists: offer 0's greater list before offer 1's lesser one");
        plan(calls(running(0, 0, 2, 100, 0, 0, 2), running(1, 0, 2, 100, 0, 0, 1),
                scans(0, 1, 2)), 1, 0, NONE, 0);
        says("the least article that is in a set of a running offer is taken");
        plan(calls(running(0, 0, 2, 150, 0, 1, 2, 3), scans(0, 1, 2, 3)), 2, NONE, NONE, 0, 0);
        says("in a set that its kind looks at");
        plan(calls(running(0, 0, 2, 150, 0, 2, 3), set(0, 1, 0, 1), scans(0, 1, 2, 3)), 2,
                NONE, NONE, 0, 0);
        says("Units of other articles are alone");
        plan(calls(twoFor150(), scans(5, 0, 6, 1)), 1, NONE, 0, NONE, 0);
    }

    private static void orderOfLists() {
        says("LISTS: of kinds 0, 1, 3 the articles of the use, rising");
        int[][] kinds = {{0, 100}, {1, 0}, {3, 0}};
        for (int[] k : kinds) {
            // 0 0 and 1 1 goes before 0 1 and 0 1.
            plan(calls(running(0, k[0], 2, k[1], 0, 0, 1), scans(1, 0, 1, 0)), 2, 1, 0, 1, 0);
        }
        says("LISTS: of these the one with the lesser second one");
        plan(calls(prices(300, 100, 100), running(0, 0, 2, 100, 1, 0, 1, 2), scans(2, 1, 0)), 2,
                NONE, 0, 0);
        plan(calls(prices(300, 100, 100, 100), running(0, 0, 3, 100, 1, 0, 1, 2, 3),
                scans(3, 2, 1, 0)), 2, NONE, 0, 0, 0);
        says("LISTS: and so on");
        plan(calls(prices(300, 300, 300, 100, 100), running(0, 0, 4, 100, 1, 0, 1, 2, 3, 4),
                scans(4, 3, 2, 1, 0)), 2, NONE, 0, 0, 0, 0);
        says("LISTS: of kind 2 that of set 0, of set 1, ..");
        // Lists 0 5 and 1 0 are as good; 0 5 has the lesser article of set 0.
        Call[] sets = calls(prices(300, 100, 100, 100, 100, 100), offerOf(0, 2, 2, 100, 1),
                runOf(0, true), set(0, 0, 0, 1), set(0, 1, 0, 5));
        plan(calls(sets, scans(1, 5, 0)), 2, NONE, 0, 0);
        // Lists 1 0 and 2 0: article 0 is only in set 1.
        Call[] second = calls(prices(300, 100, 100), offerOf(0, 2, 2, 100, 1), runOf(0, true),
                set(0, 0, 1, 2), set(0, 1, 0));
        plan(calls(second, scans(2, 1, 0)), 2, NONE, 0, 0);
        // Lists 3 0 9 and 3 1 0 (1 and 9 cost the same): the lesser second one is 0.
        Call[] third = calls(prices(300), offerOf(0, 2, 3, 100, 1), runOf(0, true), set(0, 0, 3),
                set(0, 1, 0, 1), set(0, 2, 0, 9));
        plan(calls(third, scans(1, 9, 3, 0)), 2, NONE, 0, 0, 0);
    }

    private static void numbersOfUses() {
        says("The uses are numbered from 0 in the order in which they are found");
        plan(calls(running(0, 0, 2, 10, 0, 5), running(1, 0, 2, 10, 0, 3), scans(5, 5, 3, 3)), 2,
                1, 1, 0, 0);
        plan(calls(running(0, 0, 2, 10, 0, 5), running(1, 0, 2, 10, 0, 3), scans(5, 5, 3, 3)), 1,
                0, 0, 1, 1);
        plan(calls(running(0, 0, 2, 10, 0, 0), times(10, scanOf(0))), 2,
                0, 0, 1, 1, 2, 2, 3, 3, 4, 4);
        says("each takes of an article the units that were scanned first of those that are left");
        Call[] two = calls(prices(100, 300), running(0, 0, 2, 150, 1, 0, 1));
        plan(calls(two, scans(1, 0, 1, 0)), 2, 0, NONE, 0, NONE);
        plan(calls(running(0, 0, 2, 10, 0, 0, 1), scans(1, 0, 0, 1, 0, 1)), 2, 1, 0, 0, 2, 1, 2);
        says("so does one that is taken ALONE, as it is taken");
        plan(calls(running(0, 0, 2, 150, 0, 0), scans(0, 0, 0)), 2, NONE, 0, 0);
        plan(calls(running(0, 0, 4, 150, 0, 0), times(6, scanOf(0))), 2, NONE, NONE, 0, 0, 0, 0);
        says("A unit alone PAYS its price");
        plan(calls(prices(1, 100000), twoFor150(), runOf(0, false), scans(1, 0)), 3, 100000, 1);
        plan(calls(running(0, 0, 2, 150, 0, 0), scans(0, 0, 0)), 3, 100, 75, 75);
    }

    private static void spread() {
        says("saving times its price, divided by the sum of the prices, down");
        // 60 over 100 and 200: 20 and 40, nothing is left.
        plan(calls(prices(100, 200), running(0, 0, 2, 240, 0, 0, 1), scans(0, 1)), 3, 80, 160);
        says("cents that are left go one each to the units with the greatest remainders");
        // 11 over 20, 30 and 50: 2.2, 3.3 and 5.5.
        plan(calls(prices(20, 30, 50), running(0, 0, 3, 89, 0, 0, 1, 2), scans(0, 1, 2)), 3,
                18, 27, 44);
        // 5 over 30, 30, 30 and 31: 1.23 three times and 1.28.
        plan(calls(prices(30, 31), running(0, 0, 4, 116, 0, 0, 1), scans(0, 0, 0, 1)), 3,
                29, 29, 29, 29);
        // 2 over 10, 10, 10 and 11: 0.48 three times and 0.53.
        plan(calls(prices(10, 11), running(0, 0, 4, 39, 0, 0, 1), scans(0, 0, 0, 1)), 3,
                9, 10, 10, 10);
        // 12 over 9, 1 and 9: 5.68, 0.63 and 5.68.
        plan(calls(prices(9, 1), running(0, 0, 3, 7, 0, 0, 1), scans(0, 1, 0)), 3, 3, 1, 3);
        says("cents that are left go to the units of their own use");
        // The third unit of the first use has 200 of 300 left, both of the second use 10 of 20.
        plan(calls(prices(100, 10), running(0, 0, 3, 100, 0, 0), running(1, 0, 2, 19, 0, 1),
                scans(0, 0, 0, 1, 1)), 3, 33, 33, 34, 9, 10);
        says("of equal ones to those that were scanned first");
        plan(calls(running(0, 0, 3, 200, 0, 0, 1, 2), scans(2, 0, 1)), 3, 66, 67, 67);
        plan(calls(running(0, 0, 3, 199, 0, 0, 1, 2), scans(2, 0, 1)), 3, 66, 66, 67);
        plan(calls(running(0, 0, 4, 397, 0, 0, 1, 2), scans(2, 0, 1, 0)), 3, 99, 99, 99, 100);
        says("a saving that is all of the prices leaves nothing to pay");
        plan(calls(prices(1, 100000, 77), running(0, 0, 3, 0, 0, 0, 1, 2), scans(0, 1, 2)), 3,
                0, 0, 0);
        says("a saving of one cent");
        plan(calls(prices(1, 100000), running(0, 0, 2, 100000, 0, 0, 1), scans(0, 1)), 3,
                1, 99999);
        plan(calls(running(0, 0, 2, 199, 0, 0), scans(0, 0)), 3, 99, 100);
        says("a saving times a price beyond 31 bits");
        plan(calls(prices(100000), running(0, 0, 4, 1, 0, 0), scans(0, 0, 0, 0)), 3, 0, 0, 0, 1);
        says("kinds 1 and 3 spread their savings too");
        plan(calls(prices(100, 50), running(0, 1, 2, 0, 0, 0, 1), scans(0, 1)), 3, 67, 33);
        plan(calls(prices(100, 50), running(0, 3, 2, 50, 0, 0, 1), scans(1, 0)), 3, 42, 83);
        says("what the units pay is the total");
        due(0, calls(prices(33, 47, 91), running(0, 1, 3, 0, 0, 0, 1, 2), scans(0, 1, 2, 2)),
                t -> t.total(0) - t.unit(0, 3) - t.unit(1, 3) - t.unit(2, 3) - t.unit(3, 3));
    }

    private static void calls() {
        says("An object is used for at most 512 calls");
        Call[] busy = calls(twoFor150(), scans(0, 1));
        while (busy.length < MOST_CALLS - 3) {
            busy = calls(busy, scanOf(0), unscanOf(0));
        }
        busy = Arrays.copyOf(busy, MOST_CALLS - 1);
        for (int k = 0; k < busy.length; k++) {
            busy[k] = busy[k] == null ? totalOf(1) : busy[k];
        }
        due(150, busy, totalOf(0));
    }
}
