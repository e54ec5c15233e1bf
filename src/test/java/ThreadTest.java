/** Promise 21: EAVESDROPPING. */
public final class ThreadTest {
    private static final Checks CHECKS = new Checks();

    public static void main(String[] args) {
        thread(new int[] {1, 2, 3, 6, 4}, 0, 2, 3, 4);
        thread(new int[] {0}, 0);
        thread(new int[] {0, 0, 0}, 0);
        thread(new int[] {0, 5, 0, 5}, 1, 3);
        thread(new int[] {1, 2, 4, 8}, 0);
        thread(new int[] {1, 2, 1, 2}, 0, 2);
        thread(new int[] {2, 1, 1, 2}, 0, 3);
        thread(new int[] {32768, 128, 32768 + 128, 256, 384}, 0, 2, 4);
        thread(new int[] {3, 1, 2, 2, 1}, 0, 1, 4);
        thread(new int[] {3, 1, 2, 2, 1, 2}, 0, 2, 3, 5);
        thread(new int[] {65535, 65535, 1, 65535}, 0, 1, 2, 3);
        int[] all = new int[20];
        int[] places = new int[20];
        for (int i = 0; i < 20; i++) {
            all[i] = 1 << i % 16 | 1 << (i + 1) % 16;
            places[i] = i;
        }
        thread(all, places);
        CHECKS.end();
    }

    private static void thread(int[] sayings, int... places) {
        TalkingPlots x = new TalkingPlots();
        StringBuilder text = new StringBuilder();
        for (int said : sayings) {
            text.append((char) (said >> 8)).append((char) (said & 255));
        }
        int n = sayings.length;
        Checks.feed(x, text.toString());
        CHECKS.due("how many of " + n, x.thread(n, 100), places.length);
        for (int i = 0; i < 20; i++) {
            Checks.feed(x, text.toString());
            CHECKS.due("place " + i + " of " + n, x.thread(n, i), i < places.length ? places[i] : -4);
            CHECKS.due("empty then", x.count(5), 0);
        }
    }
}
