/**
 * The boundary cases that the terms name for acknowledgements, for letters that go back and for transactions. Each test
 * quotes the words that it is for.
 */
public final class AcknowledgeEdgesTest {
    private static final int[] YES = {1, 2, 32, 128, 255};

    public static void main(String[] args) {
        oneThatIsHeld();
        oneThatIsNotHeld();
        nZero();
        oneThatWasAcknowledged();
        oneThatIsHeldByAnother();
        oneThatWasGottenWithoutHolding();
        oneThatWentBack();
        allUpToOne();
        allUpToOneThatIsNotHeld();
        noneUpToIt();
        allAtOnce();
        allOfNone();
        anyByteForYes();
        goneOrBack();
        rejectIsForOneAlone();
        nothingAnswers();
        backAtItsPlace();
        backWhenItsQueueIsGone();
        recoveringNone();
        recoveringAll();
        notTransacted();
        transactedTwice();
        emptyCommit();
        transactedAfterwards();
        letterIsKeptWhenComplete();
        nothingIsDoneBefore();
        testedWhenTheyCome();
        recoveringIsNotKept();
        twelveKept();
        moreThanTwelve();
        moreThanTwelveAndUnfit();
        twelveAgain();
        twelveOnEachChannel();
        inTheirOrder();
        notHeldAnyMore();
        allThatItHoldsThen();
        upToOneThatIsDeliveredLater();
        beforeTheAnswer();
        rollingBack();
        upTo24AtACommit();
        beyond24AtACommit();
        roomAtACommit();
        returnedAtACommit();
        mostAtACommit();
        exchangeDeletedBeforeTheCommit();
        Client.end();
    }

    /** Channel 1 holds the letters 1 to 4 of the queue q, delivered as 1 to 4. */
    private static Client holdingFour(String story) {
        Client c = Client.open(story, 3);
        c.tell(1, "50 10 'q' 0");
        for (int i = 1; i <= 4; i++) {
            c.publish(2, "''", "'q'");
            c.tell(1, "60 70 'q' 0");
        }
        c.forget();
        return c;
    }

    private static Client transacted(String story) {
        Client c = holdingFour(story);
        c.tell(1, "90 10");
        c.due("1/1 90 11");
        return c;
    }

    /** What q has is just these numbers, in this order, and none of them is held any more. */
    private static void waitingAre(Client c, int... numbers) {
        c.queueIs(0, 0, numbers.length);
        for (int number : numbers) {
            c.queueIs(0, 3, number);
            c.tell(3, "60 70 'q' 1");
        }
        c.queueIs(0, 0, 0);
    }

    /** 60 80, 60 120 (gone and back) and, without f, 60 90 (gone and back) with this N. */
    private static String[] each(String n, int f) {
        if (f == 0) {
            return new String[] {"60 80 " + n + " 0", "60 120 " + n + " 0 0", "60 120 " + n + " 0 1", "60 90 " + n + " 0",
                "60 90 " + n + " 1"};
        }
        return new String[] {"60 80 " + n + " " + f, "60 120 " + n + " " + f + " 0", "60 120 " + n + " " + f + " 1"};
    }

    private static boolean isBack(String method) {
        return !method.startsWith("60 80") && method.endsWith(" 1");
    }

    private static void unfit(Client c, String method, int held) {
        c.channelIs(1, 1, held);
        c.forget();
        c.tell(1, method);
        c.softIs(1, 406);
        c.channelIs(1, 1, 0);
    }

    // ---- 60 80, 60 90, 60 120 ----

    /** "acknowledges the letter that was delivered as N": the first, the last. */
    private static void oneThatIsHeld() {
        for (int n : new int[] {1, 4}) {
            for (String method : each("#" + n, 0)) {
                Client c = holdingFour("one that is held, " + method);
                c.tell(1, method);
                c.due();
                c.channelIs(1, 0, 1);
                c.channelIs(1, 1, 3);
                c.queueIs(0, 3, isBack(method) ? n : 0);
            }
        }
    }

    /** "406 if the channel holds no letter N": one too large. */
    private static void oneThatIsNotHeld() {
        for (String n : new String[] {"#5", "#256", "#257", "#65535"}) {
            for (String method : each(n, 0)) {
                unfit(holdingFour("one that is not held, " + method), method, 4);
            }
        }
    }

    /** "406 if the channel holds no letter N": one too small. */
    private static void nZero() {
        for (String method : each("#0", 0)) {
            unfit(holdingFour("N 0 without f, " + method), method, 4);
        }
    }

    /** "406 if the channel holds no letter N": not any more. */
    private static void oneThatWasAcknowledged() {
        for (String method : each("#2", 0)) {
            Client c = holdingFour("one that was acknowledged, " + method);
            c.tell(1, method.startsWith("60 80") ? "60 90 #2 0" : "60 80 #2 0");
            unfit(c, method, 3);
        }
    }

    /** "406 if the channel holds no letter N": another one does. */
    private static void oneThatIsHeldByAnother() {
        for (String method : each("#1", 0)) {
            Client c = holdingFour("one that another channel holds, " + method);
            c.tell(2, method);
            c.softIs(2, 406);
            c.channelIs(1, 1, 4);
        }
    }

    /** "406 if the channel holds no letter N": it was never held. */
    private static void oneThatWasGottenWithoutHolding() {
        for (String method : each("#5", 0)) {
            Client c = holdingFour("one that was gotten without holding, " + method);
            c.publish(2, "''", "'q'");
            c.tell(1, "60 70 'q' 1");
            c.channelIs(1, 2, 5);
            unfit(c, method, 4);
        }
    }

    /** "406 if the channel holds no letter N": one that went back and came again has another N. */
    private static void oneThatWentBack() {
        for (String method : each("#1", 0)) {
            Client c = holdingFour("one that went back, " + method);
            c.tell(1, "60 90 #1 1");
            c.tell(1, "60 70 'q' 0");
            c.channelIs(1, 2, 5);
            unfit(c, method, 4);
        }
    }

    /** "f: and all before it": the first one alone, and all. */
    private static void allUpToOne() {
        for (int n = 1; n <= 4; n++) {
            for (String method : each("#" + n, 1)) {
                Client c = holdingFour("all up to one, " + method);
                c.tell(1, method);
                c.due();
                c.channelIs(1, 1, 4 - n);
                c.queueIs(0, 0, isBack(method) ? n : 0);
                c.tell(1, "60 120 #0 1 0");
                waitingAre(c, isBack(method) ? new int[][] {{1}, {1, 2}, {1, 2, 3}, {1, 2, 3, 4}}[n - 1] : new int[0]);
            }
        }
    }

    /** "(with f: if N is not 0 and it holds none up to N)": it holds some, though not N. */
    private static void allUpToOneThatIsNotHeld() {
        for (String method : each("#3", 1)) {
            Client c = holdingFour("all up to one that is not held, " + method);
            c.tell(1, "60 80 #3 0");
            c.tell(1, method);
            c.channelIs(1, 0, 1);
            c.channelIs(1, 1, 1);
        }
        for (String n : new String[] {"#5", "#256", "#65535"}) {
            for (String method : each(n, 1)) {
                Client c = holdingFour("all up to one that is not there yet, " + method);
                c.tell(1, method);
                c.channelIs(1, 0, 1);
                c.channelIs(1, 1, 0);
            }
        }
    }

    /** "(with f: if N is not 0 and it holds none up to N)" */
    private static void noneUpToIt() {
        for (String method : each("#2", 1)) {
            Client c = holdingFour("none up to it, " + method);
            c.tell(1, "60 80 #2 1");
            unfit(c, method, 2);
        }
        for (String method : each("#65535", 1)) {
            Client c = holdingFour("none at all, " + method);
            c.tell(1, "60 80 #0 1");
            unfit(c, method, 0);
        }
    }

    /** "(N 0 with f: all)" */
    private static void allAtOnce() {
        for (String method : each("#0", 1)) {
            Client c = holdingFour("all at once, " + method);
            c.tell(1, method);
            c.due();
            c.channelIs(1, 1, 0);
            waitingAre(c, isBack(method) ? new int[] {1, 2, 3, 4} : new int[0]);
        }
    }

    /** "if N is not 0": with N 0 and f there need be none. */
    private static void allOfNone() {
        for (String method : each("#0", 1)) {
            Client c = Client.open("all of none, " + method, 1);
            c.tell(1, method);
            c.due();
            c.channelIs(1, 0, 1);
        }
    }

    /** "f a byte that is 0 for no, anything else for yes" */
    private static void anyByteForYes() {
        for (int yes : YES) {
            Client c = holdingFour("60 80 with f " + yes);
            c.tell(1, "60 80 #3 " + yes);
            c.channelIs(1, 1, 1);
            Client d = holdingFour("60 120 with f " + yes);
            d.tell(1, "60 120 #3 " + yes + " 0");
            d.channelIs(1, 1, 1);
            d.queueIs(0, 0, 0);
            Client e = holdingFour("60 120 with g " + yes);
            e.tell(1, "60 120 #3 0 " + yes);
            e.channelIs(1, 1, 3);
            e.queueIs(0, 3, 3);
            Client f = holdingFour("60 90 with g " + yes);
            f.tell(1, "60 90 #3 " + yes);
            f.channelIs(1, 1, 3);
            f.queueIs(0, 3, 3);
        }
    }

    /** "they go back if g, otherwise they are gone" */
    private static void goneOrBack() {
        Client c = holdingFour("gone or back");
        c.tell(1, "60 120 #1 0 0");
        c.tell(1, "60 120 #2 0 1");
        c.tell(1, "60 90 #3 0");
        c.tell(1, "60 90 #4 1");
        c.channelIs(1, 1, 0);
        waitingAre(c, 2, 4);
    }

    /** "60 90 N g: as 60 120 with N and f 0" */
    private static void rejectIsForOneAlone() {
        for (int g : new int[] {0, 1, 255}) {
            Client c = holdingFour("60 90 for one alone, " + g);
            c.tell(1, "60 90 #4 " + g);
            c.channelIs(1, 1, 3);
        }
    }

    /** "Nothing answers." */
    private static void nothingAnswers() {
        Client c = holdingFour("nothing answers");
        for (String method : new String[] {"60 80 #1 0", "60 90 #2 1", "60 120 #3 1 0", "60 80 #0 1"}) {
            c.tell(1, method);
            c.due();
        }
    }

    /** "A letter that goes BACK waits at its place by number again": the first, the last, and between. */
    private static void backAtItsPlace() {
        int[][] orders = {{1, 2, 3, 4}, {4, 3, 2, 1}, {2, 4, 1, 3}, {3, 1, 4, 2}};
        for (int[] order : orders) {
            Client c = holdingFour("back at its place");
            c.publish(2, "''", "'q'");
            for (int n : order) {
                c.tell(1, "60 90 #" + n + " 1");
            }
            waitingAre(c, 1, 2, 3, 4, 5);
        }
        Client d = holdingFour("back behind the last");
        d.tell(1, "60 90 #1 1");
        d.tell(1, "60 90 #4 1");
        waitingAre(d, 1, 4);
    }

    /** "it is gone if its queue is" */
    private static void backWhenItsQueueIsGone() {
        for (String method : each("#0", 1)) {
            Client c = holdingFour("its queue is gone, " + method);
            c.tell(2, "50 40 'q' 0");
            c.tell(2, "50 10 'q' 0");
            c.tell(1, method);
            c.channelIs(1, 1, 0);
            c.queueIs(0, 0, 0);
        }
    }

    /** "60 110: all letters that the channel holds go back": it holds none. */
    private static void recoveringNone() {
        Client c = Client.open("recovering none", 1);
        c.tell(1, "60 110");
        c.due("1/1 60 111");
        c.channelIs(1, 0, 1);
    }

    /** "60 110: all letters that the channel holds go back": it holds as many as there can be; others' stay. */
    private static void recoveringAll() {
        Client c = Client.open("recovering all", 2);
        c.tell(1, "50 10 'q' 0");
        for (int i = 0; i < 24; i++) {
            c.publish(1, "''", "'q'");
        }
        c.tell(2, "60 70 'q' 0");
        c.tell(1, "60 20 'q' 't' 0");
        c.channelIs(1, 1, 23);
        c.tell(1, "60 30 't'");
        c.tell(1, "60 110");
        c.channelIs(1, 1, 0);
        c.channelIs(2, 1, 1);
        c.queueIs(0, 0, 23);
        c.queueIs(0, 3, 2);
    }

    // ---- transactions ----

    /** "90 20 commits, 90 30 rolls back: 406 if it is not transacted" */
    private static void notTransacted() {
        for (String method : new String[] {"90 20", "90 30"}) {
            Client.soft("not transacted, " + method, 406, method);
            Client c = Client.open("another channel is transacted, " + method, 2);
            c.tell(2, "90 10");
            c.forget();
            c.tell(1, method);
            c.softIs(1, 406);
            c.channelIs(2, 0, 1);
        }
    }

    /** "90 10: the channel is TRANSACTED": it may be already, and keeps what it has. */
    private static void transactedTwice() {
        Client c = transacted("transacted twice");
        c.tell(1, "60 80 #1 0");
        c.tell(1, "90 10");
        c.due("1/1 90 11");
        c.channelIs(1, 3, 1);
        c.tell(1, "90 20");
        c.due("1/1 90 21");
        c.channelIs(1, 1, 3);
    }

    /** "90 20 commits, 90 30 rolls back": nothing is kept. */
    private static void emptyCommit() {
        Client c = transacted("nothing is kept");
        c.tell(1, "90 20");
        c.due("1/1 90 21");
        c.tell(1, "90 30");
        c.due("1/1 90 31");
        c.channelIs(1, 1, 4);
        c.queueIs(0, 0, 0);
    }

    /** "A transacted channel's": it stays so when it has committed or rolled back. */
    private static void transactedAfterwards() {
        for (String method : new String[] {"90 20", "90 30"}) {
            Client c = transacted("still transacted after " + method);
            c.tell(1, method);
            c.publish(1, "''", "'q'");
            c.tell(1, "60 80 #1 0");
            c.channelIs(1, 3, 2);
            c.queueIs(0, 0, 0);
            c.channelIs(1, 1, 4);
        }
    }

    /** "letters that are complete .. are kept" */
    private static void letterIsKeptWhenComplete() {
        Client c = transacted("kept when complete");
        c.tell(1, "60 40 '' 'q' 0");
        c.channelIs(1, 3, 0);
        c.head(1, 2);
        c.channelIs(1, 3, 0);
        c.body(1, "1");
        c.channelIs(1, 3, 0);
        c.body(1, "2");
        c.channelIs(1, 3, 1);
        c.publish(1, "''", "'q'");
        c.channelIs(1, 3, 2);
        c.due();
    }

    /** "are kept .. until it commits": on this channel alone. */
    private static void nothingIsDoneBefore() {
        Client c = transacted("nothing is done before");
        c.publish(1, "''", "'q'");
        for (String method : each("#2", 0)) {
            c.tell(1, method);
        }
        c.tell(1, "60 40 '' 'none' 1");
        c.head(1, 0);
        c.due();
        c.channelIs(1, 3, 7);
        c.channelIs(1, 1, 4);
        c.queueIs(0, 0, 0);
        c.publish(2, "''", "'q'");
        c.queueIs(0, 0, 1);
        c.channelIs(2, 3, 0);
    }

    /** "(tested when they come)" */
    private static void testedWhenTheyCome() {
        for (String n : new String[] {"#0", "#5"}) {
            for (String method : each(n, 0)) {
                Client c = transacted("tested when it comes, " + method);
                c.tell(1, "60 80 #1 0");
                unfit(c, method, 4);
                c.channelIs(1, 3, 0);
                c.queueIs(0, 0, 4);
            }
        }
        Client d = transacted("one that is kept twice");
        d.tell(1, "60 80 #1 0");
        d.tell(1, "60 80 #1 0");
        d.channelIs(1, 3, 2);
        Client e = transacted("publishing to no exchange");
        e.tell(1, "60 40 'e' 'k' 0");
        e.softIs(1, 404);
    }

    /** "its 60 80, 60 90, 60 120 .. are kept": 60 110 is not. */
    private static void recoveringIsNotKept() {
        Client c = transacted("60 110 is not kept");
        c.tell(1, "60 110");
        c.due("1/1 60 111");
        c.channelIs(1, 3, 0);
        c.channelIs(1, 1, 0);
        c.queueIs(0, 0, 4);
    }

    private static Client keepingTwelve(String story) {
        Client c = transacted(story);
        for (int i = 1; i <= 12; i++) {
            if (i % 2 == 0) {
                c.tell(1, "60 90 #1 1");
            } else {
                c.publish(1, "''", "'q'");
            }
            c.channelIs(1, 3, i);
        }
        return c;
    }

    /** "at most 12" */
    private static void twelveKept() {
        Client c = keepingTwelve("twelve kept");
        c.channelIs(1, 0, 1);
        c.tell(1, "90 20");
        c.due("1/1 90 21");
        c.queueIs(0, 0, 7);
        c.channelIs(1, 1, 3);
        c.channelIs(1, 3, 0);
    }

    /** "at most 12 (506 for more)" */
    private static void moreThanTwelve() {
        for (String method : each("#1", 0)) {
            Client c = keepingTwelve("more than twelve, " + method);
            c.tell(1, method);
            c.softIs(1, 506);
            c.channelIs(1, 3, 0);
            waitingAre(c, 1, 2, 3, 4);
        }
        Client d = keepingTwelve("more than twelve, a letter of no byte");
        d.tell(1, "60 40 '' 'q' 0");
        d.due();
        d.head(1, 0);
        d.softIs(1, 506);
        Client e = keepingTwelve("more than twelve, a letter of one byte");
        e.tell(1, "60 40 '' 'q' 0");
        e.head(1, 1);
        e.due();
        e.body(1, "1");
        e.softIs(1, 506);
        waitingAre(e, 1, 2, 3, 4);
    }

    /** "tested in this order: .. 406, 530, 506" */
    private static void moreThanTwelveAndUnfit() {
        for (String method : each("#9", 0)) {
            unfit(keepingTwelve("more than twelve, and unfit, " + method), method, 4);
        }
        Client c = keepingTwelve("more than twelve, and no exchange");
        c.tell(1, "60 40 'e' 'q' 0");
        c.softIs(1, 404);
    }

    /** "at most 12 .., until it commits", or rolls back: then there is room for 12 again. */
    private static void twelveAgain() {
        for (String method : new String[] {"90 20", "90 30"}) {
            Client c = transacted("twelve again after " + method);
            for (int round = 1; round <= 2; round++) {
                for (int i = 1; i <= 12; i++) {
                    c.tell(1, "60 80 #0 1");
                }
                c.channelIs(1, 3, 12);
                c.tell(1, method);
                c.channelIs(1, 3, 0);
            }
            c.channelIs(1, 0, 1);
        }
    }

    /** "A transacted channel's letters .. are kept, at most 12": each channel keeps its own. */
    private static void twelveOnEachChannel() {
        Client c = Client.open("twelve on each channel", 3);
        for (int channel = 1; channel <= 3; channel++) {
            c.tell(channel, "90 10");
            for (int i = 1; i <= 12; i++) {
                c.tell(channel, "60 80 #0 1");
            }
            c.channelIs(channel, 3, 12);
        }
        c.tell(2, "90 20");
        c.channelIs(1, 3, 12);
        c.channelIs(2, 3, 0);
        c.channelIs(3, 3, 12);
    }

    /** "then they are done in their order" */
    private static void inTheirOrder() {
        Client c = transacted("in their order, back and then gone");
        c.tell(1, "60 120 #3 0 1");
        c.tell(1, "60 120 #3 0 0");
        c.tell(1, "60 120 #2 1 0");
        c.tell(1, "60 120 #0 1 1");
        c.tell(1, "90 20");
        c.due("1/1 90 21");
        c.channelIs(1, 1, 0);
        waitingAre(c, 3, 4);
        Client d = transacted("in their order, letters");
        d.tell(2, "50 10 'p' 0");
        d.publish(1, "''", "'p'");
        d.publish(1, "''", "'q'");
        d.publish(1, "''", "'p'");
        d.tell(1, "90 20");
        d.queueIs(1, 3, 5);
        d.queueIs(0, 3, 6);
    }

    /** "of letters that are not held any more nothing" */
    private static void notHeldAnyMore() {
        for (String method : each("#2", 0)) {
            Client c = transacted("not held any more, " + method);
            c.tell(1, method);
            c.tell(1, "60 110");
            c.forget();
            c.tell(1, "90 20");
            c.due("1/1 90 21");
            c.channelIs(1, 0, 1);
            waitingAre(c, 1, 2, 3, 4);
        }
        Client d = transacted("not held any more, but come again with another N");
        d.tell(1, "60 80 #1 0");
        d.tell(1, "60 110");
        d.tell(1, "60 70 'q' 0");
        d.tell(1, "90 20");
        d.channelIs(1, 1, 1);
        d.channelIs(1, 2, 5);
    }

    /** "N 0 with f is all that it holds then" */
    private static void allThatItHoldsThen() {
        for (String method : each("#0", 1)) {
            Client c = transacted("all that it holds then, " + method);
            c.tell(1, method);
            c.publish(2, "''", "'q'");
            c.tell(1, "60 70 'q' 0");
            c.channelIs(1, 1, 5);
            c.tell(1, "90 20");
            c.channelIs(1, 1, 0);
            c.queueIs(0, 0, isBack(method) ? 5 : 0);
        }
        for (String method : each("#4", 1)) {
            Client c = transacted("not what came after N, " + method);
            c.tell(1, method);
            c.publish(2, "''", "'q'");
            c.tell(1, "60 70 'q' 0");
            c.tell(1, "90 20");
            c.channelIs(1, 1, 1);
        }
    }

    /** "until it commits: then they are done": up to an N that was not delivered yet when the method came */
    private static void upToOneThatIsDeliveredLater() {
        for (String method : each("#5", 1)) {
            Client c = transacted("up to one that is delivered later, " + method);
            c.tell(1, method);
            for (int i = 5; i <= 6; i++) {
                c.publish(2, "''", "'q'");
                c.tell(1, "60 70 'q' 0");
            }
            c.channelIs(1, 1, 6);
            c.tell(1, "90 20");
            c.channelIs(1, 1, 1);
            c.queueIs(0, 0, isBack(method) ? 5 : 0);
        }
    }

    /** "before 90 21 is sent"; and deliveries come after it */
    private static void beforeTheAnswer() {
        Client c = transacted("before 90 21");
        c.tell(2, "60 20 'q' 't' 1");
        c.forget();
        c.publish(1, "''", "'q'");
        c.tell(1, "60 40 '' 'none' 1");
        c.head(1, 0);
        c.due();
        c.tell(1, "90 20");
        c.due("1/1 60 50 #312 '' 'none'", "2/1 0", "1/1 90 21", "1/2 60 60 't' #1 0 '' 'q'", "2/2 0");
    }

    /** "Rolling back forgets them." */
    private static void rollingBack() {
        Client c = keepingTwelve("rolling back");
        c.tell(1, "90 30");
        c.due("1/1 90 31");
        c.channelIs(1, 3, 0);
        c.channelIs(1, 1, 4);
        c.tell(1, "90 20");
        c.due("1/1 90 21");
        c.channelIs(1, 1, 4);
        c.queueIs(0, 0, 0);
    }

    /** Channel 1 is transacted and holds letter 1 as N 1; with it there are so many letters in all. */
    private static Client transactedWith(String story, int letters) {
        Client c = Client.open(story, 3);
        c.tell(1, "50 10 'q' 0");
        for (int i = 0; i < letters; i++) {
            c.publish(2, "''", "'q'");
        }
        c.tell(1, "60 70 'q' 0");
        c.tell(1, "90 10");
        c.forget();
        return c;
    }

    /** "At a commit that is so for each of them": up to 24 it is right. */
    private static void upTo24AtACommit() {
        Client c = transactedWith("24 at a commit", 22);
        c.publish(1, "''", "'q'");
        c.publish(1, "''", "'q'");
        c.tell(1, "90 20");
        c.due("1/1 90 21");
        c.queueIs(0, 0, 23);
        c.channelIs(1, 1, 1);
    }

    /** "after a soft mistake the rest is not done, nor 90 21 sent"; what came before it is done */
    private static void beyond24AtACommit() {
        Client c = transactedWith("25 at a commit", 22);
        for (int i = 0; i < 3; i++) {
            c.publish(1, "''", "'q'");
        }
        c.tell(1, "60 80 #1 0");
        c.tell(1, "60 40 '' 'none' 1");
        c.head(1, 0);
        c.channelIs(1, 3, 5);
        c.due();
        c.tell(1, "90 20");
        c.softIs(1, 506);
        c.channelIs(1, 3, 0);
        c.queueIs(0, 0, 24);
        c.queueIs(0, 3, 1);
        Client d = transactedWith("25 at a commit, and returned before", 24);
        d.tell(1, "60 40 '' 'none' 1");
        d.head(1, 0);
        d.publish(1, "''", "'q'");
        d.tell(1, "90 20");
        d.due("1/1 60 50 #312 '' 'none'", "2/1 0", "1/1 20 40 #506");
        d.channelIs(1, 0, 2);
    }

    /** "in their order": what is acknowledged before makes room, what is acknowledged behind does not. */
    private static void roomAtACommit() {
        Client c = transactedWith("room by what comes before", 24);
        c.tell(1, "60 80 #1 0");
        c.publish(1, "''", "'q'");
        c.tell(1, "90 20");
        c.due("1/1 90 21");
        c.queueIs(0, 0, 24);
        Client d = transactedWith("no room by what comes behind", 24);
        d.publish(1, "''", "'q'");
        d.tell(1, "60 80 #1 0");
        d.tell(1, "90 20");
        d.softIs(1, 506);
        d.queueIs(0, 0, 24);
        d.queueIs(0, 3, 1);
        Client e = transactedWith("no room by what goes back", 24);
        e.tell(1, "60 90 #1 1");
        e.publish(1, "''", "'q'");
        e.tell(1, "90 20");
        e.softIs(1, 506);
    }

    /** "At a commit that is so for each of them": those that must reach a queue and reach none. */
    private static void returnedAtACommit() {
        Client c = transacted("returned at a commit");
        for (int i = 0; i < 12; i++) {
            c.tell(1, "60 40 '' '' 1");
            c.head(1, 0);
        }
        c.due();
        c.tell(1, "90 20");
        String[] due = new String[25];
        for (int i = 0; i < 12; i++) {
            due[2 * i] = "1/1 60 50 #312 '' ''";
            due[2 * i + 1] = "2/1 0";
        }
        due[24] = "1/1 90 21";
        c.due(due);
    }

    /** "done in their order .. before 90 21 is sent", and then delivered: the most bytes that one step can send. */
    private static void mostAtACommit() {
        Client c = Client.open("the most bytes of one step", 2);
        c.tell(1, "40 10 'exchange' 1 0");
        c.tell(1, "40 10 'nobodys1' 1 0");
        for (int i = 1; i <= 4; i++) {
            c.tell(1, "50 10 'q" + i + "' 0");
            c.tell(1, "50 20 'q" + i + "' 'exchange' ''");
            c.tell(1, "60 20 'q" + i + "' 'tagtagt" + i + "' 0");
        }
        c.tell(2, "90 10");
        for (int i = 1; i <= 12; i++) {
            c.tell(2, "60 40 " + (i % 2 == 0 ? "'exchange'" : "'nobodys1'") + " '12345678' 1");
            c.head(2, 6);
            c.body(2, "1 2 3 4 5 6");
        }
        c.readyIs(146);
        for (int bytes = 146; bytes < 499; bytes += bytes < 181 ? 7 : 6) {
            c.tell(2, bytes < 181 ? "20 20 1" : "60 10 0");
        }
        c.readyIs(499);
        c.tell(2, "90 20");
        c.readyIs(499 + 6 * 41 + 6 + 24 * 51);
        c.channelIs(1, 1, 24);
        c.stepIs(LetterBroker.NONE);
    }

    /** "A complete letter (or one that is committed) .., its exchange being looked up by its name then" */
    private static void exchangeDeletedBeforeTheCommit() {
        for (int again = 0; again <= 1; again++) {
            Client c = transacted("its exchange was deleted, declared again: " + again);
            c.tell(2, "40 10 'e' 0 0");
            c.tell(2, "50 20 'q' 'e' 'k'");
            c.tell(1, "60 40 'e' 'k' 1");
            c.head(1, 0);
            c.tell(2, "40 20 'e' 0");
            if (again == 1) {
                c.tell(2, "40 10 'e' 2 0");
                c.tell(2, "50 20 'q' 'e' '#'");
            }
            c.forget();
            c.tell(1, "90 20");
            if (again == 1) {
                c.due("1/1 90 21");
            } else {
                c.due("1/1 60 50 #312 'e' 'k'", "2/1 0", "1/1 90 21");
            }
            c.queueIs(0, 0, again);
        }
    }
}
