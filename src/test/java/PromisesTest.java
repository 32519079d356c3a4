import java.util.function.IntSupplier;

/** The document's promises one by one: ordinary inputs, named edges and wrong inputs. */
public final class PromisesTest {
    private static final int LOW = Integer.MIN_VALUE;
    private static final int HIGH = Integer.MAX_VALUE;
    private static final Class<?> ARGUMENT = IllegalArgumentException.class;
    private static final Class<?> STATE = IllegalStateException.class;
    private static final Class<?> INDEX = IndexOutOfBoundsException.class;
    private static final Class<?> UNSUPPORTED = UnsupportedOperationException.class;

    private static int wrong = 0;
    private static int promise = 0;

    public static void main(String[] args) {
        promise1NewObject();
        promise2Article();
        promise3Offer();
        promise4Member();
        promise5Run();
        promise6Scan();
        promise7Unscan();
        promise8Total();
        promise8Kinds();
        promise8Most();
        promise9Unit();
        promise9OrderOfWays();
        promise9Spread();
        promise10Tax();
        promise11TryOffer();
        promise12Finish();
        promise13GiveBack();
        promise13OldTariff();
        promise14Receipt();
        promise15Line();
        System.out.println(wrong == 0 ? "all promises hold" : wrong + " answers are not as due");
        if (wrong != 0) {
            System.exit(1);
        }
    }

    private static void due(String call, int want, IntSupplier answer) {
        String got;
        try {
            got = String.valueOf(answer.getAsInt());
        } catch (RuntimeException e) {
            got = e.getClass().getName();
        }
        check(call, got, String.valueOf(want));
    }

    private static void refused(String call, Class<?> want, Runnable action) {
        String got = "nothing";
        try {
            action.run();
        } catch (RuntimeException e) {
            got = e.getClass().getName();
        }
        check(call, got, want.getName());
    }

    private static void check(String call, String got, String want) {
        if (!got.equals(want)) {
            wrong++;
            System.out.println("promise " + promise + ": " + call + " answered " + got
                    + ", due is " + want);
        }
    }

    private static void scanAll(PromotionTill till, int... articles) {
        for (int article : articles) {
            till.scan(article);
        }
    }

    private static void setPrices(PromotionTill till, int... cents) {
        for (int id = 0; id < cents.length; id++) {
            till.article(id, cents[id], 0);
        }
    }

    private static void runOffer(PromotionTill till, int id, int kind, int n, int value) {
        till.offer(id, kind, n, value, 0);
        till.run(id, true);
    }

    private static void putIn(PromotionTill till, int offer, int set, int... articles) {
        for (int article : articles) {
            till.member(offer, set, article, true);
        }
    }

    /** Offer 0 runs: two of articles 0 and 1 for 150. */
    private static PromotionTill twoFor150() {
        PromotionTill till = new PromotionTill();
        runOffer(till, 0, 0, 2, 150);
        putIn(till, 0, 0, 0, 1);
        return till;
    }

    private static void promise1NewObject() {
        promise = 1;
        PromotionTill till = new PromotionTill();
        due("NONE", -1, () -> PromotionTill.NONE);
        for (int what = 0; what <= 2; what++) {
            int asked = what;
            due("total(" + what + ")", 0, () -> till.total(asked));
        }
        due("receipts", 0, () -> till.receipt(0, 4));
        due("drawer", 0, () -> till.receipt(0, 5));
        refused("unit(0, 0)", INDEX, () -> till.unit(0, 0));
        for (int article = 0; article < 10; article++) {
            till.scan(article);
        }
        due("ten articles cost 100 each", 1000, () -> till.total(0));
        due("no offer runs", 0, () -> till.total(2));
        due("class 0", 0, () -> till.tax(0));
        due("nothing in class 1", 0, () -> till.tax(1));

        PromotionTill fresh = new PromotionTill();
        fresh.run(0, true);
        scanAll(fresh, 0, 0, 0);
        due("a new offer's sets are empty", 300, () -> fresh.total(0));
        PromotionTill plain = new PromotionTill();
        plain.run(0, true);
        putIn(plain, 0, 0, 0);
        scanAll(plain, 0, 0, 0);
        due("a new offer is two for nothing", 100, () -> plain.total(0));
        PromotionTill often = new PromotionTill();
        often.run(0, true);
        putIn(often, 0, 0, 0);
        scanAll(often, 0, 0, 0, 0, 0, 0, 0, 0, 0, 0);
        due("a new offer has no most", 5, () -> often.total(2));
    }

    private static void promise2Article() {
        promise = 2;
        PromotionTill till = new PromotionTill();
        till.article(0, 1, 0);
        till.article(11, 100000, 3);
        for (int id : new int[] {-1, 12, LOW, HIGH}) {
            refused("article(" + id + ", 5, 0)", ARGUMENT, () -> till.article(id, 5, 0));
        }
        for (int cents : new int[] {0, -1, 100001, LOW, HIGH}) {
            refused("article(0, " + cents + ", 0)", ARGUMENT, () -> till.article(0, cents, 0));
        }
        for (int taxClass : new int[] {-1, 4, LOW, HIGH}) {
            refused("article(0, 5, " + taxClass + ")", ARGUMENT,
                    () -> till.article(0, 5, taxClass));
        }
        scanAll(till, 0, 11);
        due("refused calls change nothing", 100001, () -> till.total(1));
        due("tax of class 3", 20000, () -> till.tax(3));
        refused("article with a full basket", STATE, () -> till.article(0, 5, 0));
        refused("the argument goes first", ARGUMENT, () -> till.article(12, 5, 0));
        due("still", 100001, () -> till.total(1));
        till.unscan(0);
        till.unscan(0);
        till.article(0, 7, 0);
        till.scan(0);
        due("changed again", 7, () -> till.total(0));
    }

    private static void promise3Offer() {
        promise = 3;
        PromotionTill till = new PromotionTill();
        putIn(till, 0, 0, 0);
        till.offer(0, 0, 2, 120, 0);
        till.run(0, true);
        int[][] bad = {{-1, 0, 2, 0, 0}, {6, 0, 2, 0, 0}, {LOW, 0, 2, 0, 0}, {HIGH, 0, 2, 0, 0},
            {0, -1, 2, 0, 0}, {0, 4, 2, 0, 0}, {0, HIGH, 2, 0, 0}, {0, 0, 1, 0, 0},
            {0, 0, 5, 0, 0}, {0, 3, LOW, 0, 0}, {0, 3, 5, 0, 0}, {0, 0, 2, -1, 0},
            {0, 0, 2, 400001, 0}, {0, 1, 2, HIGH, 0}, {0, 0, 2, 0, -1}, {0, 0, 2, 0, 6},
            {0, 0, 2, 0, LOW}};
        for (int[] b : bad) {
            refused("offer" + java.util.Arrays.toString(b), ARGUMENT,
                    () -> till.offer(b[0], b[1], b[2], b[3], b[4]));
        }
        scanAll(till, 0, 0);
        due("refused calls change nothing", 120, () -> till.total(0));
        refused("offer with a full basket", STATE, () -> till.offer(0, 0, 2, 1, 0));
        refused("the argument goes first", ARGUMENT, () -> till.offer(0, 4, 2, 1, 0));
        due("still", 120, () -> till.total(0));
        till.unscan(0);
        till.unscan(0);
        till.offer(5, 3, 4, 400000, 5);
        till.offer(0, 0, 3, 90, 1);
        scanAll(till, 0, 0, 0, 0);
        due("its sets and its running stay", 190, () -> till.total(0));
    }

    private static void promise4Member() {
        promise = 4;
        PromotionTill till = twoFor150();
        int[][] bad = {{-1, 0, 0}, {6, 0, 0}, {HIGH, 0, 0}, {0, -1, 0}, {0, 4, 0}, {0, LOW, 0},
            {0, 0, -1}, {0, 0, 12}, {0, 0, HIGH}};
        for (int[] b : bad) {
            refused("member" + java.util.Arrays.toString(b), ARGUMENT,
                    () -> till.member(b[0], b[1], b[2], true));
        }
        till.member(0, 0, 2, true);
        till.member(0, 0, 2, true);
        till.member(0, 0, 1, false);
        till.member(0, 0, 1, false);
        till.member(0, 3, 11, true);
        scanAll(till, 0, 1);
        due("article 1 is out", 200, () -> till.total(0));
        till.scan(2);
        due("article 2 is in", 250, () -> till.total(0));
        refused("member with a full basket", STATE, () -> till.member(0, 0, 1, true));
        refused("the argument goes first", ARGUMENT, () -> till.member(0, 4, 1, true));
        due("still", 250, () -> till.total(0));
    }

    private static void promise5Run() {
        promise = 5;
        PromotionTill till = twoFor150();
        for (int offer : new int[] {-1, 6, LOW, HIGH}) {
            refused("run(" + offer + ")", ARGUMENT, () -> till.run(offer, true));
        }
        scanAll(till, 0, 1);
        due("it runs", 150, () -> till.total(0));
        refused("run with a full basket", STATE, () -> till.run(0, false));
        refused("the argument goes first", ARGUMENT, () -> till.run(6, false));
        due("it still runs", 150, () -> till.total(0));
        till.unscan(0);
        till.unscan(0);
        till.run(0, false);
        scanAll(till, 0, 1);
        due("it doesn't run", 200, () -> till.total(0));
    }

    private static void promise6Scan() {
        promise = 6;
        PromotionTill till = new PromotionTill();
        for (int article : new int[] {-1, 12, LOW, HIGH}) {
            refused("scan(" + article + ")", ARGUMENT, () -> till.scan(article));
        }
        for (int count = 1; count <= 10; count++) {
            due("scan " + count, count, () -> till.scan(11));
        }
        refused("the eleventh", UNSUPPORTED, () -> till.scan(0));
        refused("the argument goes first", ARGUMENT, () -> till.scan(12));
        due("ten stay", 1000, () -> till.total(1));

        PromotionTill tight = new PromotionTill();
        for (int offer = 0; offer < 3; offer++) {
            tight.offer(offer, 0, 2, 0, 4);
            tight.run(offer, true);
        }
        putIn(tight, 0, 0, 0, 1, 2, 3);
        putIn(tight, 0, 1, 4);
        tight.offer(3, 0, 2, 0, 5);
        putIn(tight, 3, 0, 5);
        scanAll(tight, 0, 1, 2, 3);
        due("room 125 * 24 is 3000", 5, () -> tight.scan(3));
        refused("room 4000", UNSUPPORTED, () -> tight.scan(3));
        refused("room 4500", UNSUPPORTED, () -> tight.scan(0));
        due("a set that kind 0 doesn't look at", 6, () -> tight.scan(4));
        due("a set of an offer that doesn't run", 7, () -> tight.scan(5));
        due("in no set", 8, () -> tight.scan(6));
        due("the refused units are not there", 800, () -> tight.total(1));

        PromotionTill kind2 = new PromotionTill();
        for (int offer = 0; offer < 4; offer++) {
            kind2.offer(offer, 2, 3, 0, 5);
            kind2.run(offer, true);
        }
        putIn(kind2, 0, 2, 0);
        putIn(kind2, 0, 3, 1);
        due("1296 * 2", 1, () -> kind2.scan(0));
        due("set 3 of n 3 is not looked at", 2, () -> kind2.scan(1));
        refused("1296 * 3", UNSUPPORTED, () -> kind2.scan(0));
    }

    private static void promise7Unscan() {
        promise = 7;
        PromotionTill till = twoFor150();
        refused("unscan of nothing", INDEX, () -> till.unscan(0));
        scanAll(till, 3, 0, 5, 1);
        for (int i : new int[] {-1, 4, LOW, HIGH}) {
            refused("unscan(" + i + ")", INDEX, () -> till.unscan(i));
        }
        due("before", 350, () -> till.total(0));
        due("unscan(1)", 0, () -> till.unscan(1));
        due("the later ones move up", 5, () -> till.unit(1, 0));
        due("behind it", 300, () -> till.total(0));
        due("unscan(2)", 1, () -> till.unscan(2));
        due("unscan(0)", 3, () -> till.unscan(0));
        due("unscan(0)", 5, () -> till.unscan(0));
        refused("none left", INDEX, () -> till.unscan(0));
        due("empty", 0, () -> till.total(1));
    }

    private static void promise8Total() {
        promise = 8;
        PromotionTill till = twoFor150();
        scanAll(till, 0, 0, 1, 7);
        due("least", 350, () -> till.total(0));
        due("prices", 400, () -> till.total(1));
        due("uses", 1, () -> till.total(2));
        till.scan(1);
        due("two uses", 400, () -> till.total(0));
        due("two uses", 2, () -> till.total(2));
        for (int what : new int[] {-1, 3, LOW, HIGH}) {
            refused("total(" + what + ")", ARGUMENT, () -> till.total(what));
        }
        PromotionTill dear = new PromotionTill();
        runOffer(dear, 0, 0, 2, 200);
        putIn(dear, 0, 0, 0);
        scanAll(dear, 0, 0);
        due("a use without a saving is not needed", 0, () -> dear.total(2));
        due("and costs the same", 200, () -> dear.total(0));
    }

    private static void promise8Kinds() {
        promise = 8;
        PromotionTill free = new PromotionTill();
        setPrices(free, 300, 200, 70);
        runOffer(free, 0, 1, 3, 400000);
        putIn(free, 0, 0, 0, 1, 2);
        scanAll(free, 2, 1, 0);
        due("kind 1: the cheapest is free", 500, () -> free.total(0));

        PromotionTill menu = new PromotionTill();
        setPrices(menu, 300, 200, 70, 50);
        runOffer(menu, 0, 2, 3, 400);
        putIn(menu, 0, 0, 0);
        putIn(menu, 0, 1, 1, 0);
        putIn(menu, 0, 2, 2);
        putIn(menu, 0, 3, 3);
        scanAll(menu, 0, 0, 2, 3);
        due("kind 2: sets 0 to 2", 450, () -> menu.total(0));
        menu.unscan(2);
        due("kind 2: nothing of set 2", 650, () -> menu.total(0));

        int[][] halves = {{50, 101, 300, 351}, {33, 50, 150, 167}, {0, 99, 150, 150},
            {101, 100, 150, 250}, {100, 100, 150, 250}, {400000, 99999, 100000, 199999},
            {50, 1, 1, 2}, {99, 50, 60, 110},
            {30000, 100000, 100000, 200000}};
        for (int[] h : halves) {
            PromotionTill half = new PromotionTill();
            setPrices(half, h[1], h[2]);
            runOffer(half, 0, 3, 4, h[0]);
            putIn(half, 0, 0, 0, 1);
            scanAll(half, 1, 0);
            due("kind 3 at " + h[0] + " percent", h[3], () -> half.total(0));
        }

        // The greedy use of the three dearest is not the best one.
        PromotionTill cross = new PromotionTill();
        setPrices(cross, 500, 400, 300, 200);
        runOffer(cross, 0, 0, 2, 600);
        putIn(cross, 0, 0, 0, 1);
        runOffer(cross, 1, 1, 2, 0);
        putIn(cross, 1, 0, 0, 1, 2, 3);
        scanAll(cross, 0, 1, 2, 3);
        due("the best mixture", 800, () -> cross.total(0));
    }

    private static void promise8Most() {
        promise = 8;
        for (int most = 0; most <= 5; most++) {
            PromotionTill till = new PromotionTill();
            till.offer(0, 0, 2, 50, most);
            till.run(0, true);
            putIn(till, 0, 0, 0);
            scanAll(till, 0, 0, 0, 0, 0, 0, 0, 0, 0, 0);
            int uses = most == 0 ? 5 : most;
            due("uses at most " + most, uses, () -> till.total(2));
            due("total at most " + most, 1000 - 150 * uses, () -> till.total(0));
        }
    }

    private static void promise9Unit() {
        promise = 9;
        PromotionTill till = twoFor150();
        scanAll(till, 7, 1, 0, 0);
        int[][] want = {{7, -1, -1, 100}, {1, 0, 0, 75}, {0, -1, -1, 100}, {0, 0, 0, 75}};
        for (int i = 0; i < 4; i++) {
            for (int what = 0; what < 4; what++) {
                int unit = i;
                int asked = what;
                due("unit(" + i + ", " + what + ")", want[i][what], () -> till.unit(unit, asked));
            }
        }
        for (int bad : new int[] {-1, 4, LOW, HIGH}) {
            refused("unit(" + bad + ", 0)", INDEX, () -> till.unit(bad, 0));
            refused("unit(0, " + bad + ")", ARGUMENT, () -> till.unit(0, bad));
            refused("the index goes first", INDEX, () -> till.unit(bad, bad));
        }
    }

    private static void promise9OrderOfWays() {
        promise = 9;
        // Equal totals: article 0 alone goes before a use, so the use has articles 1 and 2.
        PromotionTill alone = new PromotionTill();
        runOffer(alone, 0, 0, 2, 150);
        putIn(alone, 0, 0, 0, 1, 2);
        scanAll(alone, 0, 1, 2);
        due("alone first", -1, () -> alone.unit(0, 1));
        due("then the use", 0, () -> alone.unit(1, 2));

        // Equal totals: the lesser offer goes first, though the other was set first.
        PromotionTill offers = new PromotionTill();
        runOffer(offers, 4, 0, 2, 150);
        putIn(offers, 4, 0, 0);
        runOffer(offers, 2, 1, 2, 0);
        offers.article(0, 50, 0);
        putIn(offers, 2, 0, 0);
        offers.offer(4, 0, 2, 50, 0);
        scanAll(offers, 0, 0);
        due("offer 2 before offer 4", 2, () -> offers.unit(0, 1));

        // Four units, two uses: list 0 0 goes before list 0 1.
        PromotionTill lists = twoFor150();
        scanAll(lists, 1, 0, 1, 0);
        int[] uses = {1, 0, 1, 0};
        for (int i = 0; i < 4; i++) {
            int unit = i;
            due("use of unit " + i, uses[i], () -> lists.unit(unit, 2));
        }

        // Kind 2 goes by its sets: list 1 0 (set 0 has 1) goes before list 2 0.
        PromotionTill sets = new PromotionTill();
        till3(sets);
        scanAll(sets, 2, 1, 0);
        due("list 1 0", 0, () -> sets.unit(1, 2));
        due("article 2 is alone", -1, () -> sets.unit(0, 2));

        // The lesser list of set 0, though set 1 gets a greater article.
        PromotionTill first = new PromotionTill();
        runOffer(first, 0, 2, 2, 100);
        first.offer(0, 2, 2, 100, 1);
        putIn(first, 0, 0, 0, 1);
        putIn(first, 0, 1, 0, 3);
        scanAll(first, 3, 1, 0, 0);
        due("alone is as good: article 0", -1, () -> first.unit(2, 2));
        due("alone again", -1, () -> first.unit(3, 2));
        due("so 1 and 3 are the use", 0, () -> first.unit(0, 2));

        // A unit alone takes the one that was scanned first.
        PromotionTill odd = twoFor150();
        scanAll(odd, 0, 0, 0);
        due("first is alone", -1, () -> odd.unit(0, 2));
        due("second in use 0", 0, () -> odd.unit(1, 2));
        due("third in use 0", 0, () -> odd.unit(2, 2));
    }

    private static void till3(PromotionTill till) {
        setPrices(till, 100, 60, 60);
        runOffer(till, 0, 2, 2, 40);
        putIn(till, 0, 0, 1, 2);
        putIn(till, 0, 1, 0);
    }

    private static void promise9Spread() {
        promise = 9;
        // Saving 100 over 3 equal units: the left cent goes to the unit scanned first.
        PromotionTill even = new PromotionTill();
        runOffer(even, 0, 0, 3, 200);
        putIn(even, 0, 0, 0, 1, 2);
        scanAll(even, 2, 0, 1);
        due("first gets the cent", 66, () -> even.unit(0, 3));
        due("second", 67, () -> even.unit(1, 3));
        due("third", 67, () -> even.unit(2, 3));

        // Saving 11 over 50, 30, 20: 5.5, 3.3, 2.2: the greatest remainder is unit 2's here.
        PromotionTill rest = new PromotionTill();
        setPrices(rest, 20, 30, 50);
        runOffer(rest, 0, 2, 3, 89);
        putIn(rest, 0, 0, 2);
        putIn(rest, 0, 1, 1);
        putIn(rest, 0, 2, 0);
        scanAll(rest, 0, 1, 2);
        due("20 less 2", 18, () -> rest.unit(0, 3));
        due("30 less 3", 27, () -> rest.unit(1, 3));
        due("50 less 6", 44, () -> rest.unit(2, 3));

        // Saving times price is beyond 31 bits: 399999 * 100000.
        PromotionTill great = new PromotionTill();
        setPrices(great, 100000);
        runOffer(great, 0, 0, 4, 1);
        putIn(great, 0, 0, 0);
        scanAll(great, 0, 0, 0, 0);
        due("99999.75 and a cent", 0, () -> great.unit(0, 3));
        due("three of them", 0, () -> great.unit(2, 3));
        due("the last pays", 1, () -> great.unit(3, 3));
    }

    private static void promise10Tax() {
        promise = 10;
        PromotionTill till = new PromotionTill();
        till.article(0, 107, 1);
        till.article(1, 119, 2);
        till.article(2, 125, 3);
        till.article(3, 100000, 0);
        scanAll(till, 0, 1, 2, 3);
        int[] want = {0, 7, 19, 25};
        for (int c = 0; c < 4; c++) {
            int taxClass = c;
            due("tax(" + c + ")", want[c], () -> till.tax(taxClass));
        }
        for (int bad : new int[] {-1, 4, LOW, HIGH}) {
            refused("tax(" + bad + ")", ARGUMENT, () -> till.tax(bad));
        }
        // 25 percent of 5 cents is 1; of 2 is 0.4; of 3 is 0.6; 7 of 100 is 6.54.
        int[][] small = {{5, 3, 1}, {2, 3, 0}, {3, 3, 1}, {100, 1, 7}, {99, 2, 16}, {1, 1, 0}};
        for (int[] s : small) {
            PromotionTill one = new PromotionTill();
            one.article(0, s[0], s[1]);
            one.scan(0);
            due("tax of " + s[0] + " in class " + s[1], s[2], () -> one.tax(s[1]));
        }
        // What is paid counts, not the price, and the sum is rounded once.
        PromotionTill paid = twoFor150();
        paid.article(0, 100, 1);
        paid.article(1, 100, 2);
        scanAll(paid, 0, 1);
        due("7 inside 75", 5, () -> paid.tax(1));
        due("19 inside 75", 12, () -> paid.tax(2));
        PromotionTill sum = new PromotionTill();
        sum.article(0, 2, 3);
        scanAll(sum, 0, 0, 0, 0, 0);
        due("the sum is rounded, not the units", 2, () -> sum.tax(3));
    }

    private static void promise11TryOffer() {
        promise = 11;
        PromotionTill till = twoFor150();
        till.offer(1, 0, 2, 120, 0);
        putIn(till, 1, 0, 0, 1);
        due("empty", 0, () -> till.tryOffer(1));
        scanAll(till, 0, 1);
        due("as well", 120, () -> till.tryOffer(1));
        due("without", 200, () -> till.tryOffer(0));
        due("an empty offer", 150, () -> till.tryOffer(5));
        due("nothing is changed", 150, () -> till.total(0));
        due("the plan is the same", 0, () -> till.unit(0, 1));
        for (int bad : new int[] {-1, 6, LOW, HIGH}) {
            refused("tryOffer(" + bad + ")", ARGUMENT, () -> till.tryOffer(bad));
        }
        PromotionTill tight = new PromotionTill();
        for (int offer = 0; offer < 5; offer++) {
            tight.offer(offer, 0, 2, 10, 5);
            tight.run(offer, offer < 4);
            putIn(tight, offer, 0, 0);
        }
        refused("7776 with an empty basket", UNSUPPORTED, () -> tight.tryOffer(4));
        tight.scan(0);
        refused("7776 * 2", UNSUPPORTED, () -> tight.tryOffer(4));
        due("216 * 2", 100, () -> tight.tryOffer(0));
        due("the refused one doesn't run", 100, () -> tight.total(0));
        refused("room 1296 * 3", UNSUPPORTED, () -> tight.scan(0));
        tight.unscan(0);
        tight.run(4, true);
        due("1296 with an empty basket", 0, () -> tight.tryOffer(4));
        due("an empty basket beyond the room", 0, () -> tight.total(0));
        tight.offer(5, 0, 2, 10, 5);
        tight.run(5, true);
        refused("7776 though the offer goes", UNSUPPORTED, () -> tight.tryOffer(5));
        due("an empty basket far beyond the room", 0, () -> tight.total(2));
    }

    private static void promise12Finish() {
        promise = 12;
        PromotionTill till = twoFor150();
        refused("empty", STATE, () -> till.finish(0));
        refused("empty goes first", STATE, () -> till.finish(LOW));
        scanAll(till, 0, 1);
        refused("a cent too few", ARGUMENT, () -> till.finish(149));
        refused("far too few", ARGUMENT, () -> till.finish(LOW));
        due("nothing is changed", 150, () -> till.total(0));
        due("no receipt", 0, () -> till.receipt(0, 4));
        due("just enough", 0, () -> till.finish(150));
        due("the basket is empty", 0, () -> till.total(1));
        refused("and stays so", STATE, () -> till.finish(1000));
        due("the drawer", 150, () -> till.receipt(0, 5));
        till.scan(3);
        due("much change", HIGH - 100, () -> till.finish(HIGH));
        due("the drawer gets the total", 250, () -> till.receipt(0, 5));
        for (int n = 2; n < 12; n++) {
            till.scan(0);
            till.finish(100);
        }
        due("twelve receipts", 12, () -> till.receipt(0, 4));
        refused("empty goes before twelve", STATE, () -> till.finish(100));
        till.scan(0);
        refused("too few goes before twelve", ARGUMENT, () -> till.finish(99));
        refused("the thirteenth", UNSUPPORTED, () -> till.finish(100));
        due("the unit stays", 100, () -> till.total(0));
        due("the drawer stays", 1250, () -> till.receipt(0, 5));
    }

    private static void promise13GiveBack() {
        promise = 13;
        PromotionTill till = new PromotionTill();
        runOffer(till, 0, 0, 3, 100);
        putIn(till, 0, 0, 0);
        refused("no receipt", INDEX, () -> till.giveBack(0, 0));
        scanAll(till, 0, 0, 0, 5);
        till.finish(200);
        for (int bad : new int[] {-1, 4, LOW, HIGH}) {
            refused("giveBack(0, " + bad + ")", INDEX, () -> till.giveBack(0, bad));
            refused("giveBack(" + bad + ", 0)", INDEX, () -> till.giveBack(bad, 0));
        }
        due("a broken bundle gives nothing", 0, () -> till.giveBack(0, 1));
        due("the refund is not below 0", 0, () -> till.receipt(0, 1));
        refused("twice", STATE, () -> till.giveBack(0, 1));
        due("100 and 100 are left to pay", 0, () -> till.giveBack(0, 0));
        due("only 100 is left", 100, () -> till.giveBack(0, 3));
        due("the drawer loses it", 100, () -> till.receipt(0, 5));
        due("the last", 100, () -> till.giveBack(0, 2));
        due("all refunded", 200, () -> till.receipt(0, 1));
        due("empty drawer", 0, () -> till.receipt(0, 5));
        refused("twice too", STATE, () -> till.giveBack(0, 2));
    }

    /** A receipt keeps its prices and offers, and a greater refund is not taken back. */
    private static void promise13OldTariff() {
        promise = 13;
        PromotionTill till = new PromotionTill();
        setPrices(till, 100, 100, 300);
        runOffer(till, 0, 0, 2, 120);
        putIn(till, 0, 0, 0, 1);
        till.offer(1, 1, 2, 0, 1);
        scanAll(till, 0, 1, 2);
        till.finish(420);
        till.article(0, 7, 0);
        till.article(2, 9, 0);
        till.offer(0, 3, 4, 0, 5);
        till.member(0, 0, 1, false);
        till.run(0, false);
        till.run(1, true);
        putIn(till, 1, 0, 0, 1, 2);
        scanAll(till, 5, 5);
        due("the basket before", 200, () -> till.total(0));
        due("by the old price", 300, () -> till.giveBack(0, 2));
        due("the bundle is broken", 20, () -> till.giveBack(0, 0));
        due("the rest", 100, () -> till.giveBack(0, 1));
        due("the basket is not touched", 200, () -> till.total(0));
        due("its units neither", 5, () -> till.unit(1, 0));

        PromotionTill peak = new PromotionTill();
        setPrices(peak, 100, 500);
        runOffer(peak, 0, 0, 2, 50);
        putIn(peak, 0, 0, 0, 1);
        scanAll(peak, 0, 0, 0);
        peak.finish(150);
        due("150 less 50", 100, () -> peak.giveBack(0, 0));
        due("150 less 100 is below the refund", 0, () -> peak.giveBack(0, 1));
        due("the refund stays", 100, () -> peak.receipt(0, 1));
        due("150 less 0", 50, () -> peak.giveBack(0, 2));
    }

    private static void promise14Receipt() {
        promise = 14;
        PromotionTill till = twoFor150();
        refused("no receipt", INDEX, () -> till.receipt(0, 0));
        due("4 for no receipt", 0, () -> till.receipt(LOW, 4));
        due("5 for no receipt", 0, () -> till.receipt(HIGH, 5));
        scanAll(till, 0, 1, 2);
        till.finish(250);
        till.scan(2);
        till.finish(100);
        till.giveBack(0, 2);
        int[][] want = {{250, 100, 3, 2, 2, 250}, {100, 0, 1, 1, 2, 250}};
        for (int n = 0; n < 2; n++) {
            for (int what = 0; what < 6; what++) {
                int receipt = n;
                int asked = what;
                due("receipt(" + n + ", " + what + ")", want[n][what],
                        () -> till.receipt(receipt, asked));
            }
        }
        for (int bad : new int[] {-1, 2, LOW, HIGH}) {
            for (int what = 0; what < 4; what++) {
                int asked = what;
                refused("receipt(" + bad + ", " + what + ")", INDEX,
                        () -> till.receipt(bad, asked));
            }
            due("receipts", 2, () -> till.receipt(bad, 4));
            due("drawer", 250, () -> till.receipt(bad, 5));
            refused("the what goes first", ARGUMENT, () -> till.receipt(bad, 6));
        }
        for (int bad : new int[] {-1, 6, LOW, HIGH}) {
            refused("receipt(0, " + bad + ")", ARGUMENT, () -> till.receipt(0, bad));
        }
    }

    private static void promise15Line() {
        promise = 15;
        PromotionTill till = twoFor150();
        refused("no receipt", INDEX, () -> till.line(0, 0, 0));
        scanAll(till, 7, 1, 0);
        till.finish(250);
        till.giveBack(0, 1);
        scanAll(till, 3);
        int[][] want = {{7, -1, 100, 1}, {1, 0, 75, 0}, {0, 0, 75, 1}};
        for (int i = 0; i < 3; i++) {
            for (int what = 0; what < 4; what++) {
                int unit = i;
                int asked = what;
                due("line(0, " + i + ", " + what + ")", want[i][what],
                        () -> till.line(0, unit, asked));
            }
        }
        for (int bad : new int[] {-1, 4, LOW, HIGH}) {
            refused("line(" + bad + ", 0, 0)", INDEX, () -> till.line(bad, 0, 0));
            refused("line(0, " + bad + ", 0)", INDEX, () -> till.line(0, bad, 0));
            refused("line(0, 0, " + bad + ")", ARGUMENT, () -> till.line(0, 0, bad));
            refused("the index goes first", INDEX, () -> till.line(0, bad, bad));
        }
        refused("unit 3 of three", INDEX, () -> till.line(0, 3, 0));
        refused("receipt 1 of one", INDEX, () -> till.line(1, 0, 0));
    }
}
