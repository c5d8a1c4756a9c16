/** Promise 14: token tells where the token is and whether it is stained. */
public final class Promise14Token {
    private static final Check check = new Check();

    public static void main(String[] args) {
        neverStarted();
        everyPlace();
        stainedOnItsWay();
        check.end();
    }

    private static void neverStarted() {
        EngagementTree x = new EngagementTree(3, 8);
        check.due("token()", x.token(), EngagementTree.NONE);
        x.passToken();
        x.settle();
        check.due("token()", x.token(), EngagementTree.NONE);
    }

    private static void everyPlace() {
        for (int n = 2; n <= 8; n++) {
            EngagementTree x = new EngagementTree(n, 8);
            for (int run = 0; run < 2; run++) {
                x.start();
                check.due("token() after start", x.token(), 1);
                x.passToken();
                check.due("token() after BUSY", x.token(), 1);
                x.rest(0);
                for (int p = n - 1; p >= 0; p--) {
                    x.passToken();
                    check.due("token()", x.token(), 2 * p);
                }
                check.due("passToken()", x.passToken(), EngagementTree.ANNOUNCED);
                check.due("token() after RING", x.token(), 0);
                x.passToken();
                x.settle();
                check.due("token() after RING", x.token(), 0);
            }
        }
    }

    private static void stainedOnItsWay() {
        EngagementTree x = new EngagementTree(8, 8);
        x.start();
        x.send(0, 7);
        x.deliver(0);
        x.rest(7);
        x.rest(0);
        x.passToken();
        check.due("token()", x.token(), 14);
        for (int p = 6; p >= 0; p--) {
            x.passToken();
            check.due("token()", x.token(), 2 * p + 1);
        }
        x.passToken();
        check.due("token()", x.token(), 14);
    }
}
