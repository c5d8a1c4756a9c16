/** Promise 12: deficit counts the sender's notes in all three stages. */
public final class Promise12Deficit {
    private static final Check check = new Check();

    public static void main(String[] args) {
        allStages();
        upToAllSlots();
        check.end();
    }

    private static void allStages() {
        EngagementTree x = new EngagementTree(3, 8);
        deficits(x, "before the first start", 0, 0, 0);
        x.start();
        deficits(x, "after start", 0, 0, 0);
        x.send(0, 1);
        x.send(0, 1);
        x.send(0, 0);
        deficits(x, "with three flying", 3, 0, 0);
        x.deliver(0);
        deficits(x, "with one held", 3, 0, 0);
        x.deliver(1);
        x.deliver(2);
        deficits(x, "with two replying", 3, 0, 0);
        x.send(1, 2);
        deficits(x, "with a note of 1", 3, 1, 0);
        x.deliver(1);
        deficits(x, "with one back", 2, 1, 0);
        x.deliver(3);
        x.rest(2);
        deficits(x, "with 2 home", 2, 1, 0);
        x.deliver(3);
        deficits(x, "with 1 paid", 2, 0, 0);
        x.rest(1);
        x.deliver(2);
        x.deliver(0);
        deficits(x, "with all back", 0, 0, 0);
    }

    private static void upToAllSlots() {
        EngagementTree x = new EngagementTree(3, 32);
        x.start();
        for (int i = 1; i <= 32; i++) {
            x.send(0, i % 3);
            deficits(x, "after " + i + " notes", i, 0, 0);
        }
        x.send(0, 1);
        deficits(x, "after FULL", 32, 0, 0);
    }

    private static void deficits(EngagementTree x, String when, int... due) {
        for (int p = 0; p < due.length; p++) {
            check.due("deficit(" + p + ") " + when, x.deficit(p), due[p]);
        }
        for (int p : new int[] {-1, 3, 7, 8, Integer.MIN_VALUE, Integer.MAX_VALUE}) {
            check.due("deficit(" + p + ") " + when, x.deficit(p), EngagementTree.BAD);
        }
    }
}
