/**
 * The same system told from within: each process knows only what reaches it. Process 0 hears of
 * the others by acknowledgements, which carry amounts and masks home, and by the token, which
 * carries counts. It never looks at all processes or slots at once as the document's rules do,
 * so an agreement of both isn't one mistake made twice.
 */
final class LocalModel {
    private final int n;
    private final int m;

    private final int[] stage;
    private final int[] from;
    private final int[] to;
    private final int[] carriedAmount;
    private final int[] carriedMask;

    private final boolean[] active;
    private final boolean[] stained;
    private final int[] drawnInBy;
    private final int[] owed;
    private final int[][] tallies;
    private final int[] broughtAmount;
    private final int[] broughtMask;

    private boolean started;
    private boolean tree;
    private boolean ring;
    private int holder;
    private boolean tokenStained;
    private int tokenBalance;
    private int tokenDelivered;
    private int ringCount;

    LocalModel(int processes, int slots) {
        n = Math.max(2, Math.min(8, processes));
        m = Math.max(8, Math.min(32, slots));
        stage = new int[m];
        from = new int[m];
        to = new int[m];
        carriedAmount = new int[m];
        carriedMask = new int[m];
        active = new boolean[n];
        stained = new boolean[n];
        drawnInBy = new int[n];
        owed = new int[n];
        tallies = new int[n][3];
        broughtAmount = new int[n];
        broughtMask = new int[n];
        java.util.Arrays.fill(drawnInBy, -1);
    }

    int start() {
        if (started && !(tree && ring)) {
            return -4;
        }
        started = true;
        tree = false;
        ring = false;
        for (int p = 0; p < n; p++) {
            stained[p] = false;
            tallies[p] = new int[3];
            broughtAmount[p] = 0;
            broughtMask[p] = 0;
        }
        active[0] = true;
        broughtMask[0] = 1;
        holder = 0;
        tokenStained = true;
        return 0;
    }

    int work(int p, int amount) {
        if (!process(p)) {
            return -1;
        }
        if (!active[p]) {
            return -2;
        }
        tallies[p][0] += amount;
        broughtAmount[p] += amount;
        return 0;
    }

    int send(int p, int q) {
        if (!process(p) || !process(q)) {
            return -1;
        }
        if (!active[p]) {
            return -2;
        }
        int s = 0;
        while (s < m && stage[s] != 0) {
            s++;
        }
        if (s == m) {
            return -3;
        }
        stage[s] = 1;
        from[s] = p;
        to[s] = q;
        owed[p]++;
        tallies[p][2]++;
        return s;
    }

    int rest(int p) {
        if (!process(p)) {
            return -1;
        }
        if (!active[p]) {
            return -2;
        }
        active[p] = false;
        perhapsLeave(p);
        return 0;
    }

    int deliver(int s) {
        if (s < 0 || s >= m) {
            return -1;
        }
        if (stage[s] == 1) {
            return takeWork(s);
        }
        if (stage[s] != 3) {
            return -4;
        }
        int p = from[s];
        broughtAmount[p] += carriedAmount[s];
        broughtMask[p] |= carriedMask[s];
        stage[s] = 0;
        owed[p]--;
        perhapsLeave(p);
        return 0;
    }

    private int takeWork(int s) {
        int q = to[s];
        boolean inTheTree = q == 0 || drawnInBy[q] >= 0;
        if (inTheTree) {
            reply(s, 0, 0);
        } else {
            stage[s] = 2;
            drawnInBy[q] = s;
        }
        active[q] = true;
        stained[q] = true;
        broughtMask[q] |= 1 << q;
        tallies[q][1]++;
        return stage[s];
    }

    private void perhapsLeave(int p) {
        if (active[p] || owed[p] > 0) {
            return;
        }
        if (p == 0) {
            tree = true;
        } else if (drawnInBy[p] >= 0) {
            reply(drawnInBy[p], broughtAmount[p], broughtMask[p]);
            drawnInBy[p] = -1;
            broughtAmount[p] = 0;
            broughtMask[p] = 0;
        }
    }

    private void reply(int s, int amount, int mask) {
        stage[s] = 3;
        carriedAmount[s] = amount;
        carriedMask[s] = mask;
    }

    int passToken() {
        if (!started || ring) {
            return -4;
        }
        if (active[holder]) {
            return -5;
        }
        tokenBalance += tallies[holder][2] - tallies[holder][1];
        tokenDelivered += tallies[holder][1];
        boolean unsure = tokenStained || stained[holder];
        if (holder > 0) {
            tokenStained = unsure;
            stained[holder] = false;
            holder--;
            return 0;
        }
        int balance = tokenBalance;
        int delivered = tokenDelivered;
        tokenBalance = 0;
        tokenDelivered = 0;
        if (!unsure && balance == 0) {
            ring = true;
            ringCount = delivered;
            return 1;
        }
        tokenStained = false;
        stained[0] = false;
        holder = n - 1;
        return 0;
    }

    int settle() {
        boolean found = true;
        while (found) {
            found = false;
            for (int s = 0; s < m && !found; s++) {
                if (stage[s] == 3) {
                    deliver(s);
                    found = true;
                }
            }
        }
        int passes = 0;
        while (passes < 3 * n && passToken() == 0) {
            passes++;
        }
        return verdict();
    }

    int note(int s) {
        if (s < 0 || s >= m) {
            return -1;
        }
        return stage[s] == 0 ? 0 : stage[s] << 6 | from[s] << 3 | to[s];
    }

    int state(int p) {
        if (!process(p)) {
            return -1;
        }
        if (active[p]) {
            return 2;
        }
        boolean waits = p == 0 ? started && !tree : drawnInBy[p] >= 0;
        return waits ? 1 : 0;
    }

    int parent(int p) {
        return process(p) && drawnInBy[p] >= 0 ? from[drawnInBy[p]] : -1;
    }

    int deficit(int p) {
        return process(p) ? owed[p] : -1;
    }

    boolean stained(int p) {
        return process(p) && stained[p];
    }

    int token() {
        return started ? 2 * holder + (tokenStained ? 1 : 0) : -1;
    }

    int tally(int p, int what) {
        return process(p) && what >= 0 && what <= 2 ? tallies[p][what] : 0;
    }

    int verdict() {
        return (tree ? 1 : 0) + (ring ? 2 : 0);
    }

    int result(int which) {
        if (which == 2) {
            return ring ? ringCount : 0;
        }
        if (!tree) {
            return 0;
        }
        return which == 0 ? broughtAmount[0] : which == 1 ? broughtMask[0] : 0;
    }

    private boolean process(int p) {
        return p >= 0 && p < n;
    }
}
