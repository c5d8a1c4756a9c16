/** Promise 11: parent answers who sent the held note. */
public final class Promise11Parent {
    private static final Check check = new Check();

    public static void main(String[] args) {
        EngagementTree x = new EngagementTree(4, 8);
        nobody(x, "before the first start");
        x.start();
        nobody(x, "after start");
        x.send(0, 3);
        x.send(0, 1);
        x.send(0, 0);
        nobody(x, "with notes flying");
        x.deliver(0);
        x.deliver(2);
        parents(x, "with 3 drawn in", -1, -1, -1, 0);
        x.send(3, 1);
        x.deliver(3);
        parents(x, "with 1 drawn in by 3", -1, 3, -1, 0);
        x.deliver(1);
        parents(x, "with a second note to 1", -1, 3, -1, 0);
        x.send(1, 0);
        x.send(1, 2);
        x.deliver(4);
        x.deliver(5);
        parents(x, "with 2 drawn in by 1", -1, 3, 1, 0);
        x.rest(1);
        parents(x, "with 1 waiting", -1, 3, 1, 0);
        x.rest(2);
        parents(x, "with 2 home", -1, 3, -1, 0);
        x.deliver(4);
        x.deliver(5);
        parents(x, "with 1 home", -1, -1, -1, 0);
        x.send(0, 1);
        x.deliver(4);
        parents(x, "with 1 drawn in anew", -1, 0, -1, 0);
        check.end();
    }

    private static void nobody(EngagementTree x, String when) {
        parents(x, when, -1, -1, -1, -1);
    }

    private static void parents(EngagementTree x, String when, int... due) {
        for (int p = 0; p < due.length; p++) {
            check.due("parent(" + p + ") " + when, x.parent(p), due[p]);
        }
        for (int p : new int[] {-1, 4, 7, 8, Integer.MIN_VALUE, Integer.MAX_VALUE}) {
            check.due("parent(" + p + ") " + when, x.parent(p), EngagementTree.NONE);
        }
    }
}
