/** The dearest baskets for all 512 calls of an object: every call must end, and soon. */
public final class LoadTest {
    private static final int CALLS = 512;
    private static final long MOST_SECONDS = 60;
    private static int wrong = 0;

    public static void main(String[] args) {
        long start = System.nanoTime();
        mostUses();
        lastUse();
        fullRoom();
        fullReceipts();
        long seconds = (System.nanoTime() - start) / 1000000000L;
        if (seconds > MOST_SECONDS) {
            wrong++;
            System.out.println("took " + seconds + " seconds");
        }
        System.out.println(wrong == 0 ? "all loads are carried" : wrong + " loads are not carried");
        if (wrong != 0) {
            System.exit(1);
        }
    }

    private static void due(String call, int got, int want) {
        if (got != want) {
            wrong++;
            System.out.println(call + " answered " + got + ", due is " + want);
        }
    }

    /** Six offers that each may take any four of ten articles: 1260 uses. */
    private static PromotionTill tillOfMostUses(int kind, int sets) {
        PromotionTill till = new PromotionTill();
        for (int offer = 0; offer < 6; offer++) {
            till.offer(offer, kind, 4, 300 - offer, 0);
            till.run(offer, true);
            for (int set = 0; set < sets; set++) {
                for (int article = 0; article < 10; article++) {
                    till.member(offer, set, article, true);
                }
            }
        }
        for (int article = 0; article < 10; article++) {
            till.scan(article);
        }
        return till;
    }

    private static void mostUses() {
        PromotionTill till = tillOfMostUses(2, 4);
        due("total", till.total(0), 790);
        due("the last offer is the best", till.unit(9, 1), 5);
        due("uses", till.total(2), 2);
        for (int k = 0; k < 240; k++) {
            due("try", till.tryOffer(k % 5), 790);
        }
        due("try the best", till.tryOffer(5), 792);
    }

    /** The very last of the 1260 uses, articles 6 to 9 by offer 5, is in the plan. */
    private static void lastUse() {
        PromotionTill till = new PromotionTill();
        for (int article = 2; article < 10; article++) {
            till.article(article, 200, 0);
        }
        for (int offer = 0; offer < 6; offer++) {
            till.offer(offer, offer < 5 ? 1 : 0, 4, 0, 0);
            till.run(offer, true);
            for (int article = 0; article < 10; article++) {
                till.member(offer, 0, article, true);
            }
        }
        for (int article = 0; article < 10; article++) {
            till.scan(article);
        }
        due("the two cheap ones", till.total(0), 200);
        for (int i = 0; i < 10; i++) {
            due("use of unit " + i, till.unit(i, 2), i < 2 ? -1 : i < 6 ? 0 : 1);
            due("offer of unit " + i, till.unit(i, 1), i < 2 ? -1 : 5);
        }
    }

    /** Room 3000: three offers of most 4, and articles with 1, 1, 1 and 2 units. */
    private static void fullRoom() {
        PromotionTill till = new PromotionTill();
        for (int offer = 0; offer < 3; offer++) {
            till.offer(offer, 0, 2, 150 - 10 * offer, 4);
            till.run(offer, true);
            for (int article = 0; article < 4; article++) {
                till.member(offer, 0, article, true);
            }
        }
        for (int article : new int[] {0, 1, 2, 3, 3}) {
            till.scan(article);
        }
        for (int k = 0; k < CALLS / 3 - 10; k++) {
            due("total", till.total(0), 360);
            till.unscan(4);
            due("scan", till.scan(3), 5);
        }
    }

    private static void fullReceipts() {
        PromotionTill till = tillOfMostUses(0, 1);
        for (int n = 0; n < 12; n++) {
            due("finish", till.finish(1000), 210);
            for (int article = 0; article < 10; article++) {
                till.scan(article);
            }
        }
        int drawer = 12 * 790;
        due("drawer", till.receipt(0, 5), drawer);
        for (int n = 0; n < 12; n++) {
            for (int i = 0; i < 10; i++) {
                drawer -= till.giveBack(n, i);
            }
            due("refund", till.receipt(n, 1), 790);
        }
        due("drawer", till.receipt(0, 5), drawer);
        due("empty drawer", drawer, 0);
    }
}
