/** Promise 16: the verdict has a bit for each detector, and either may be first. */
public final class Promise16Verdict {
    private static final Check check = new Check();

    public static void main(String[] args) {
        treeFirst();
        ringFirst();
        check.end();
    }

    private static void treeFirst() {
        EngagementTree x = new EngagementTree(2, 8);
        check.due("verdict() before the first start", x.verdict(), 0);
        x.start();
        check.due("verdict() after start", x.verdict(), 0);
        x.rest(0);
        check.due("verdict() after rest", x.verdict(), 1);
        x.passToken();
        x.passToken();
        check.due("verdict() after a round", x.verdict(), 1);
        x.passToken();
        check.due("verdict() after two", x.verdict(), 3);
        x.settle();
        x.deliver(0);
        x.rest(0);
        check.due("verdict() stays", x.verdict(), 3);
        x.start();
        check.due("verdict() after the next start", x.verdict(), 0);
    }

    private static void ringFirst() {
        EngagementTree x = new EngagementTree(2, 8);
        x.start();
        x.send(0, 1);
        x.rest(0);
        x.deliver(0);
        x.rest(1);
        for (int i = 0; i < 4; i++) {
            x.passToken();
            check.due("verdict() after pass " + i, x.verdict(), 0);
        }
        x.passToken();
        check.due("verdict() after RING", x.verdict(), 2);
        x.start();
        check.due("verdict() after a refused start", x.verdict(), 2);
        x.deliver(0);
        check.due("verdict() after the acknowledgement", x.verdict(), 3);
    }
}
