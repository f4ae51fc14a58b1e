/** Promise 3: consumers, limit and flow, and the order of deliveries. */
public final class DeliveryTest {
    public static void main(String[] args) {
        consuming();
        consumerMistakes();
        sixConsumers();
        canceling();
        answersComeFirst();
        limit();
        limitCountsAllHeld();
        flow();
        flowIsAnsweredByItsByte();
        unacknowledgedNeedNoLimit();
        round();
        roundPassesTheUnwilling();
        roundAfterTheLatestHasGone();
        roundAfterAllBehindHaveGone();
        roundIsEachQueuesOwn();
        queuesInOrderOfDeclaration();
        deliveredAfterFramesOfOthers();
        mostDeliveriesAtOnce();
        Client.end();
    }

    private static void consuming() {
        Client c = Client.open("consuming", 2);
        c.tell(1, "40 10 'ex' 2 0");
        c.tell(1, "50 10 'q' 0");
        c.tell(1, "50 20 'q' 'ex' '#'");
        c.forget();
        c.tell(2, "60 20 'q' 'tag' 0");
        c.due("1/2 60 21 'tag'");
        c.queueIs(0, 1, 1);
        c.tell(1, "60 40 'ex' 'a.b' 1");
        c.head(1, 2);
        c.due();
        c.body(1, "3 4");
        c.due("1/2 60 60 'tag' #1 0 'ex' 'a.b'", "2/2 2", "3/2 3 4");
        c.channelIs(2, 1, 1);
        c.channelIs(2, 2, 1);
        c.channelIs(1, 2, 0);
        c.queueIs(0, 0, 0);
    }

    private static void consumerMistakes() {
        Client c = Client.open("no queue to consume", 2);
        c.tell(1, "60 20 'q' 't' 0");
        c.softIs(1, 404);
        c.reopen(1);
        c.tell(1, "50 10 'q' 0");
        c.tell(1, "50 10 'p' 0");
        c.tell(1, "60 20 'q' 't' 0");
        c.tell(2, "60 20 'q' 't' 0");
        c.tell(2, "60 20 'q' '' 0");
        c.forget();
        c.tell(1, "60 20 'none' 't' 0");
        c.softIs(1, 404);
        c.queueIs(0, 1, 2);
        c.tell(2, "60 20 'p' 't' 1");
        c.softIs(2, 530);
        c.queueIs(0, 1, 0);
    }

    private static void sixConsumers() {
        Client c = Client.open("six consumers", 3);
        c.tell(1, "50 10 'q' 0");
        c.tell(1, "50 10 'p' 0");
        for (int i = 0; i < 6; i++) {
            c.tell(1 + i % 2, "60 20 " + (i < 4 ? "'q'" : "'p'") + " 't" + i + "' 0");
        }
        c.queueIs(0, 1, 4);
        c.queueIs(1, 1, 2);
        c.forget();
        c.tell(3, "60 20 'q' 't' 0");
        c.softIs(3, 506);
        c.tell(2, "60 20 'q' 't1' 0");
        c.softIs(2, 530);
        c.queueIs(0, 1, 2);
        c.queueIs(1, 1, 1);
        c.reopen(3);
        c.tell(3, "60 20 'q' 't' 0");
        c.due("1/3 60 21 't'");
    }

    private static void canceling() {
        Client c = Client.open("canceling", 2);
        c.tell(1, "50 10 'q' 0");
        c.tell(1, "60 20 'q' 't' 0");
        c.tell(2, "60 20 'q' 't' 0");
        c.publish(2, "''", "'q'");
        c.forget();
        c.tell(1, "60 30 'none'");
        c.due("1/1 60 31 'none'");
        c.queueIs(0, 1, 2);
        c.tell(1, "60 30 't'");
        c.due("1/1 60 31 't'");
        c.queueIs(0, 1, 1);
        c.channelIs(1, 1, 1);
        c.tell(1, "60 110");
        c.due("1/1 60 111", "1/2 60 60 't' #1 1 '' 'q'", "2/2 0");
        c.tell(1, "60 30 't'");
        c.due("1/1 60 31 't'");
        c.tell(1, "60 20 'q' 't' 0");
        c.due("1/1 60 21 't'");
    }

    private static void answersComeFirst() {
        Client c = Client.open("an answer before deliveries", 1);
        c.tell(1, "50 10 'q' 0");
        c.publish(1, "''", "'q'");
        c.publish(1, "''", "'q'");
        c.forget();
        c.tell(1, "60 20 'q' 't' 1");
        c.due("1/1 60 21 't'", "1/1 60 60 't' #1 0 '' 'q'", "2/1 0", "1/1 60 60 't' #2 0 '' 'q'", "2/1 0");
        c.channelIs(1, 1, 0);
        c.channelIs(1, 2, 2);
    }

    private static void limit() {
        Client c = Client.open("limit", 2);
        c.tell(1, "50 10 'q' 0");
        c.forget();
        c.tell(1, "60 10 2");
        c.due("1/1 60 11");
        c.tell(1, "60 20 'q' 't' 0");
        for (int i = 0; i < 4; i++) {
            c.publish(2, "''", "'q'");
        }
        c.channelIs(1, 1, 2);
        c.queueIs(0, 0, 2);
        c.queueIs(0, 3, 3);
        c.forget();
        c.tell(1, "60 80 #1 0");
        c.due("1/1 60 60 't' #3 0 '' 'q'", "2/1 0");
        c.tell(1, "60 10 3");
        c.due("1/1 60 11", "1/1 60 60 't' #4 0 '' 'q'", "2/1 0");
        c.tell(1, "60 10 1");
        c.publish(2, "''", "'q'");
        c.due("1/1 60 11");
        c.tell(1, "60 10 0");
        c.due("1/1 60 11", "1/1 60 60 't' #5 0 '' 'q'", "2/1 0");
    }

    private static void limitCountsAllHeld() {
        Client c = Client.open("the limit counts what was gotten, and all consumers", 1);
        c.tell(1, "50 10 'q' 0");
        c.tell(1, "50 10 'p' 0");
        c.publish(1, "''", "'p'");
        c.publish(1, "''", "'p'");
        c.tell(1, "60 70 'p' 0");
        c.tell(1, "60 10 2");
        c.tell(1, "60 20 'q' 't' 0");
        c.tell(1, "60 20 'p' 'u' 0");
        c.publish(1, "''", "'q'");
        c.channelIs(1, 1, 2);
        c.queueIs(0, 0, 1);
        c.queueIs(1, 0, 0);
    }

    private static void flow() {
        Client c = Client.open("flow", 2);
        c.tell(1, "50 10 'q' 0");
        c.tell(1, "20 20 0");
        c.tell(1, "60 20 'q' 't' 0");
        c.tell(1, "60 20 'q' 'u' 1");
        c.publish(2, "''", "'q'");
        c.queueIs(0, 0, 1);
        c.forget();
        c.tell(1, "20 20 1");
        c.due("1/1 20 21 1", "1/1 60 60 't' #1 0 '' 'q'", "2/1 0");
        c.tell(1, "20 20 0");
        c.tell(2, "60 20 'q' 'v' 1");
        c.publish(2, "''", "'q'");
        c.due("1/1 20 21 0", "1/2 60 21 'v'", "1/2 60 60 'v' #1 0 '' 'q'", "2/2 0");
    }

    private static void flowIsAnsweredByItsByte() {
        Client c = Client.open("flow is answered by its byte", 1);
        for (int flow : new int[] {0, 1, 2, 206, 255}) {
            c.tell(1, "20 20 " + flow);
            c.due("1/1 20 21 " + flow);
        }
        c.tell(1, "50 10 'q' 0");
        c.tell(1, "60 20 'q' 't' 0");
        c.publish(1, "''", "'q'");
        c.channelIs(1, 1, 1);
    }

    private static void unacknowledgedNeedNoLimit() {
        Client c = Client.open("who need not acknowledge has no limit", 1);
        c.tell(1, "50 10 'q' 0");
        c.tell(1, "60 10 1");
        c.tell(1, "60 20 'q' 't' 0");
        c.tell(1, "60 20 'q' 'u' 7");
        c.forget();
        c.publish(1, "''", "'q'");
        c.publish(1, "''", "'q'");
        c.publish(1, "''", "'q'");
        c.due("1/1 60 60 't' #1 0 '' 'q'", "2/1 0", "1/1 60 60 'u' #2 0 '' 'q'", "2/1 0", "1/1 60 60 'u' #3 0 '' 'q'", "2/1 0");
        c.channelIs(1, 1, 1);
        c.channelIs(1, 2, 3);
    }

    /** Three consumers of q in the order t, u, v, on the channels 2, 1, 2; they need not acknowledge. */
    private static Client withThree(String story) {
        Client c = Client.open(story, 3);
        c.tell(1, "50 10 'q' 0");
        c.tell(2, "60 20 'q' 't' 1");
        c.tell(1, "60 20 'q' 'u' 1");
        c.tell(2, "60 20 'q' 'v' 1");
        c.forget();
        return c;
    }

    private static void servedIs(Client c, int channel, String tag, int n) {
        c.publish(3, "''", "'q'");
        c.due("1/" + channel + " 60 60 " + tag + " #" + n + " 0 '' 'q'", "2/" + channel + " 0");
    }

    private static void round() {
        Client c = withThree("round");
        servedIs(c, 2, "'t'", 1);
        servedIs(c, 1, "'u'", 1);
        servedIs(c, 2, "'v'", 2);
        servedIs(c, 2, "'t'", 3);
        servedIs(c, 1, "'u'", 2);
    }

    private static void roundPassesTheUnwilling() {
        Client c = withThree("round passes the unwilling");
        c.tell(1, "20 20 0");
        c.forget();
        servedIs(c, 2, "'t'", 1);
        servedIs(c, 2, "'v'", 2);
        c.tell(1, "20 20 1");
        c.forget();
        servedIs(c, 2, "'t'", 3);
        servedIs(c, 1, "'u'", 1);
        c.tell(2, "20 20 0");
        c.forget();
        servedIs(c, 1, "'u'", 2);
        c.tell(2, "20 20 1");
        c.forget();
        servedIs(c, 2, "'v'", 4);
    }

    private static void roundAfterTheLatestHasGone() {
        Client c = withThree("the latest has gone");
        servedIs(c, 2, "'t'", 1);
        servedIs(c, 1, "'u'", 1);
        c.tell(1, "60 30 'u'");
        c.tell(1, "60 20 'q' 'u' 1");
        c.forget();
        servedIs(c, 2, "'v'", 2);
        servedIs(c, 1, "'u'", 2);
        servedIs(c, 2, "'t'", 3);
    }

    private static void roundAfterAllBehindHaveGone() {
        Client c = withThree("the latest and all behind it have gone");
        servedIs(c, 2, "'t'", 1);
        servedIs(c, 1, "'u'", 1);
        c.tell(2, "60 30 'v'");
        c.tell(1, "60 30 'u'");
        c.forget();
        servedIs(c, 2, "'t'", 2);
        c.tell(2, "60 30 't'");
        c.tell(1, "60 20 'q' 'w' 1");
        c.tell(2, "60 20 'q' 't' 1");
        c.forget();
        servedIs(c, 1, "'w'", 2);
        servedIs(c, 2, "'t'", 3);
    }

    private static void roundIsEachQueuesOwn() {
        Client c = withThree("round is each queue's own, and gets do not count");
        c.tell(1, "50 10 'p' 0");
        c.tell(1, "60 20 'p' 'x' 1");
        c.tell(2, "60 20 'p' 'y' 1");
        servedAfterForget(c);
        c.publish(3, "''", "'p'");
        c.due("1/1 60 60 'x' #1 0 '' 'p'", "2/1 0");
        servedIs(c, 1, "'u'", 2);
        c.publish(3, "''", "'p'");
        c.due("1/2 60 60 'y' #2 0 '' 'p'", "2/2 0");
        servedIs(c, 2, "'v'", 3);
        c.tell(1, "20 20 0");
        c.tell(2, "20 20 0");
        c.publish(3, "''", "'q'");
        c.tell(3, "60 70 'q' 1");
        c.tell(1, "20 20 1");
        c.tell(2, "20 20 1");
        c.forget();
        servedIs(c, 2, "'t'", 4);
    }

    private static void servedAfterForget(Client c) {
        c.forget();
        servedIs(c, 2, "'t'", 1);
    }

    private static void queuesInOrderOfDeclaration() {
        Client c = Client.open("queues in the order of their declaration", 2);
        c.tell(1, "40 10 'e' 1 0");
        c.tell(1, "50 10 'z' 0");
        c.tell(1, "50 10 'a' 0");
        c.tell(1, "50 20 'a' 'e' ''");
        c.tell(1, "50 20 'z' 'e' ''");
        c.tell(1, "20 20 0");
        c.tell(1, "60 20 'a' 't' 0");
        c.tell(1, "60 20 'z' 'u' 0");
        c.publish(2, "''", "'a'");
        c.publish(2, "'e'", "'k'");
        c.tell(1, "60 10 2");
        c.forget();
        c.tell(1, "20 20 1");
        c.due("1/1 20 21 1", "1/1 60 60 'u' #1 0 'e' 'k'", "2/1 0", "1/1 60 60 't' #2 0 '' 'a'", "2/1 0");
        c.tell(1, "60 10 0");
        c.due("1/1 60 11", "1/1 60 60 't' #3 0 'e' 'k'", "2/1 0");
    }

    private static void deliveredAfterFramesOfOthers() {
        Client c = Client.open("deliveries after a soft mistake, where a head is due", 2);
        c.tell(1, "50 10 'q' 0");
        c.tell(1, "60 20 'q' 't' 0");
        c.publish(1, "''", "'q'");
        c.tell(2, "60 20 'q' 'u' 0");
        c.tell(2, "60 40 '' 'q' 0");
        c.forget();
        c.tell(1, "60 90 #7 0");
        c.due("1/1 20 40 #406", "1/2 60 60 'u' #1 1 '' 'q'", "2/2 0");
        c.head(2, 0);
        c.due("1/2 60 60 'u' #2 0 '' 'q'", "2/2 0");
    }

    private static void mostDeliveriesAtOnce() {
        Client c = Client.open("24 of the longest deliveries in one step", 1);
        c.tell(1, "20 20 0");
        c.tell(1, "40 10 'exchange' 1 0");
        for (int i = 0; i < 4; i++) {
            c.tell(1, "50 10 'q" + i + "' 0");
            c.tell(1, "50 20 'q" + i + "' 'exchange' ''");
            c.tell(1, "60 20 'q" + i + "' 'abcdefg" + i + "' 0");
        }
        for (int i = 0; i < 6; i++) {
            c.tell(1, "60 40 'exchange' '12345678' 0");
            c.head(1, 6);
            c.body(1, "1 2 3 4 5 6");
        }
        for (int i = 0; i < 40; i++) {
            c.tell(1, "60 10 0");
        }
        int before = c.broker.ready();
        c.tell(1, "20 20 1");
        c.channelIs(1, 1, 24);
        c.readyIs(before + 7 + 24 * 51);
    }
}
