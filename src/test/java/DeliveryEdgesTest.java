/**
 * The boundary cases that the terms name for limit and flow, for the order of deliveries and for their numbers. Each
 * test quotes the words that it is for.
 */
public final class DeliveryEdgesTest {
    private static final int[] YES = {1, 2, 32, 128, 255};

    public static void main(String[] args) {
        noLimit();
        eachLimit();
        greatestLimit();
        limitBelowWhatIsHeld();
        limitCountsWhatWasGotten();
        limitCountsNothingThatIsNotHeld();
        limitIsTheChannels();
        limitDoesNotStopGetting();
        limitDoesNotStopWhoNeedNotAcknowledge();
        needNotAcknowledge();
        flowOff();
        flowOn();
        flowIsAnsweredByItsByte();
        flowIsTheChannels();
        noLetterWaits();
        noConsumer();
        asLongAsThereAre();
        firstQueueFirst();
        firstLetterFirst();
        fromTheFirstOn();
        oneConsumerAlone();
        round();
        roundPassesWhoCannot();
        latestHasGone();
        latestHasGoneAndNoneCameAfter();
        latestHasGoneAndCameAgain();
        anotherThanTheLatestHasGone();
        latestStays();
        eachQueueHasItsLatest();
        queueDeclaredAgainBeginsAtFirst();
        afterASoftMistake();
        notOnAShutLine();
        nCountsFromOne();
        nIsTheChannels();
        nOfWhatIsNotHeld();
        nSinceItWasOpened();
        redeliveredFromThenOn();
        deliveryWithNamesOfNoByte();
        longestDelivery();
        Client.end();
    }

    /** Channels 1 to 3 and the queue q. */
    private static Client withQueue(String story) {
        Client c = Client.open(story, 3);
        c.tell(1, "50 10 'q' 0");
        c.forget();
        return c;
    }

    private static void publish(Client c, int letters) {
        for (int i = 0; i < letters; i++) {
            c.publish(3, "''", "'q'");
        }
    }

    /** A letter for q is delivered to this consumer and nobody else. */
    private static void servedIs(Client c, int channel, String tag) {
        int n = c.latestN(channel) + 1;
        publish(c, 1);
        c.due("1/" + channel + " 60 60 " + tag + " #" + n + " 0 '' 'q'", "2/" + channel + " 0");
    }

    private static void tell(Client c, int channel, String method) {
        c.tell(channel, method);
        c.forget();
    }

    // ---- limit ----

    /** "the channel's LIMIT is n (0: none)": at first, and when it is told. */
    private static void noLimit() {
        Client c = withQueue("no limit at first");
        c.tell(1, "60 20 'q' 't' 0");
        publish(c, 24);
        c.channelIs(1, 1, 24);
        Client d = withQueue("no limit again");
        d.tell(1, "60 20 'q' 't' 0");
        d.tell(1, "60 10 1");
        d.tell(1, "60 10 0");
        publish(d, 24);
        d.channelIs(1, 1, 24);
    }

    /** "holds fewer letters than that" */
    private static void eachLimit() {
        for (int limit = 1; limit <= 5; limit++) {
            Client c = withQueue("a limit of " + limit);
            tell(c, 1, "60 20 'q' 't' 0");
            c.tell(1, "60 10 " + limit);
            c.due("1/1 60 11");
            publish(c, 6);
            c.channelIs(1, 1, limit);
            c.queueIs(0, 0, 6 - limit);
            c.forget();
            c.tell(1, "60 80 #1 0");
            c.due("1/1 60 60 't' #" + (limit + 1) + " 0 '' 'q'", "2/1 0");
            c.channelIs(1, 1, limit);
        }
    }

    /** "60 10 and a byte n": the greatest. */
    private static void greatestLimit() {
        for (int limit : new int[] {24, 25, 127, 128, 255}) {
            Client c = withQueue("a limit of " + limit);
            c.tell(1, "60 10 " + limit);
            c.tell(1, "60 20 'q' 't' 0");
            publish(c, 24);
            c.channelIs(1, 1, 24);
        }
    }

    /** "holds fewer letters than that": it holds more already. */
    private static void limitBelowWhatIsHeld() {
        Client c = withQueue("a limit below what is held");
        c.tell(1, "60 20 'q' 't' 0");
        publish(c, 3);
        c.tell(1, "60 10 2");
        publish(c, 1);
        c.channelIs(1, 1, 3);
        tell(c, 1, "60 80 #1 0");
        c.channelIs(1, 1, 2);
        c.queueIs(0, 0, 1);
        c.tell(1, "60 80 #2 0");
        c.due("1/1 60 60 't' #4 0 '' 'q'", "2/1 0");
        c.channelIs(1, 1, 2);
    }

    /** "whose channel .. holds fewer letters": gotten ones, too. */
    private static void limitCountsWhatWasGotten() {
        Client c = withQueue("the limit counts what was gotten");
        publish(c, 2);
        c.tell(1, "60 10 1");
        c.tell(1, "60 70 'q' 0");
        c.tell(1, "60 20 'q' 't' 0");
        c.channelIs(1, 1, 1);
        c.queueIs(0, 0, 1);
        c.tell(1, "60 80 #1 0");
        c.channelIs(1, 1, 1);
        c.queueIs(0, 0, 0);
    }

    /** "whose channel .. holds fewer letters": those that are not held do not count. */
    private static void limitCountsNothingThatIsNotHeld() {
        Client c = withQueue("the limit counts nothing that is not held");
        publish(c, 4);
        c.tell(1, "60 10 1");
        c.tell(1, "60 70 'q' 1");
        c.tell(1, "60 70 'q' 1");
        c.tell(1, "60 20 'q' 't' 0");
        c.channelIs(1, 1, 1);
        c.channelIs(1, 2, 3);
        c.queueIs(0, 0, 1);
    }

    /** "the channel's LIMIT": of all its consumers together, and of no other channel. */
    private static void limitIsTheChannels() {
        Client c = withQueue("the limit is the channel's");
        c.tell(1, "60 10 2");
        c.tell(1, "60 20 'q' 't' 0");
        c.tell(1, "60 20 'q' 'u' 0");
        publish(c, 3);
        c.channelIs(1, 1, 2);
        c.queueIs(0, 0, 1);
        c.tell(2, "60 20 'q' 't' 0");
        publish(c, 3);
        c.channelIs(1, 1, 2);
        c.channelIs(2, 1, 4);
    }

    /** DELIVERIES alone ask for the limit: a get does not. */
    private static void limitDoesNotStopGetting() {
        Client c = withQueue("the limit does not stop getting");
        c.tell(1, "60 10 1");
        publish(c, 3);
        for (int i = 1; i <= 3; i++) {
            c.tell(1, "60 70 'q' 0");
            c.channelIs(1, 1, i);
        }
    }

    /** "which need not acknowledge, or whose channel has no limit or holds fewer" */
    private static void limitDoesNotStopWhoNeedNotAcknowledge() {
        Client c = withQueue("the limit does not stop who need not acknowledge");
        c.tell(1, "60 10 1");
        publish(c, 1);
        c.tell(1, "60 70 'q' 0");
        c.tell(1, "60 20 'q' 't' 0");
        tell(c, 1, "60 20 'q' 'u' 1");
        for (int i = 0; i < 3; i++) {
            servedIs(c, 1, "'u'");
        }
        c.channelIs(1, 1, 1);
    }

    /** "f: that need not acknowledge"; "the channel holds the letter, unless it need not be acknowledged" */
    private static void needNotAcknowledge() {
        Client c = withQueue("it must be acknowledged");
        tell(c, 1, "60 20 'q' 't' 0");
        servedIs(c, 1, "'t'");
        c.channelIs(1, 1, 1);
        for (int f : YES) {
            Client d = withQueue("it need not be acknowledged, " + f);
            tell(d, 1, "60 20 'q' 't' " + f);
            servedIs(d, 1, "'t'");
            d.channelIs(1, 1, 0);
            d.tell(1, "60 110");
            d.queueIs(0, 0, 0);
            d.forget();
            d.tell(1, "60 80 #1 0");
            d.softIs(1, 406);
        }
    }

    // ---- flow ----

    /** "a consumer of its queue whose channel's flow is on": it is off. */
    private static void flowOff() {
        Client c = withQueue("the flow is off");
        c.tell(1, "60 20 'q' 't' 0");
        c.tell(1, "60 20 'q' 'u' 1");
        tell(c, 1, "20 20 0");
        publish(c, 2);
        c.due();
        c.queueIs(0, 0, 2);
        c.tell(1, "60 70 'q' 0");
        c.due("1/1 60 71 #1 0 '' 'q' 1", "2/1 0");
    }

    /** "20 20 f: FLOW is on or off": any byte but 0 is on. */
    private static void flowOn() {
        for (int f : YES) {
            Client c = withQueue("the flow is on, " + f);
            c.tell(1, "60 20 'q' 't' 0");
            c.tell(1, "20 20 0");
            publish(c, 1);
            c.forget();
            c.tell(1, "20 20 " + f);
            c.due("1/1 20 21 " + f, "1/1 60 60 't' #1 0 '' 'q'", "2/1 0");
        }
    }

    /** "answered by 20 21 and that byte as it came" */
    private static void flowIsAnsweredByItsByte() {
        for (int from = 0; from <= 255; from += 16) {
            Client c = withQueue("flow is answered by its byte");
            for (int f = from; f < from + 16; f++) {
                c.tell(2, "20 20 " + f);
                c.due("1/2 20 21 " + f);
            }
        }
    }

    /** "whose channel's flow is on": of no other channel. */
    private static void flowIsTheChannels() {
        Client c = withQueue("the flow is the channel's");
        c.tell(1, "60 20 'q' 't' 0");
        c.tell(2, "60 20 'q' 't' 0");
        tell(c, 1, "20 20 0");
        servedIs(c, 2, "'t'");
        servedIs(c, 2, "'t'");
    }

    // ---- the order ----

    /** "as long as there are a letter that waits and a consumer of its queue": no letter. */
    private static void noLetterWaits() {
        Client c = withQueue("no letter waits");
        c.tell(1, "60 20 'q' 't' 0");
        c.due("1/1 60 21 't'");
        c.tell(1, "60 10 0");
        c.due("1/1 60 11");
    }

    /** "a consumer of its queue": there is none, or of another queue. */
    private static void noConsumer() {
        Client c = withQueue("no consumer of its queue");
        c.tell(1, "50 10 'p' 0");
        tell(c, 1, "60 20 'p' 't' 0");
        publish(c, 2);
        c.due();
        c.queueIs(0, 0, 2);
    }

    /** "as long as there are": all 24 after one frame. */
    private static void asLongAsThereAre() {
        Client c = withQueue("all after one frame");
        publish(c, 24);
        c.tell(1, "60 20 'q' '' 0");
        c.channelIs(1, 1, 24);
        c.channelIs(1, 2, 24);
        c.queueIs(0, 0, 0);
        c.readyIs(6 + 24 * 18 + 1);
    }

    /** "the first such queue by declaration" */
    private static void firstQueueFirst() {
        Client c = Client.open("the first queue first", 1);
        c.tell(1, "50 10 'b' 0");
        c.tell(1, "50 10 'a' 0");
        c.tell(1, "50 10 'c' 0");
        c.tell(1, "20 20 0");
        for (String queue : new String[] {"'c'", "'a'", "'b'"}) {
            c.tell(1, "60 20 " + queue + " " + queue + " 0");
            c.publish(1, "''", queue);
        }
        c.tell(1, "50 40 'b' 0");
        c.tell(1, "50 10 'b' 0");
        c.tell(1, "60 20 'b' 'b' 0");
        c.publish(1, "''", "'b'");
        c.forget();
        c.tell(1, "20 20 1");
        c.due("1/1 20 21 1", "1/1 60 60 'a' #1 0 '' 'a'", "2/1 0", "1/1 60 60 'c' #2 0 '' 'c'", "2/1 0",
            "1/1 60 60 'b' #3 0 '' 'b'", "2/1 0");
    }

    /** "its first letter": by number, also of those that came back. */
    private static void firstLetterFirst() {
        Client c = withQueue("the first letter first");
        publish(c, 3);
        c.tell(2, "60 70 'q' 0");
        c.tell(2, "60 70 'q' 0");
        c.tell(2, "60 90 #2 1");
        c.tell(2, "60 90 #1 1");
        c.forget();
        c.tell(1, "60 20 'q' 't' 0");
        c.due("1/1 60 21 't'", "1/1 60 60 't' #1 1 '' 'q'", "2/1 0", "1/1 60 60 't' #2 1 '' 'q'", "2/1 0",
            "1/1 60 60 't' #3 0 '' 'q'", "2/1 0");
    }

    /** Consumers t, u, v of q, in this order, on the channels 1, 2, 1. */
    private static Client withThree(String story) {
        Client c = withQueue(story);
        c.tell(1, "60 20 'q' 't' 0");
        c.tell(2, "60 20 'q' 'u' 0");
        tell(c, 1, "60 20 'q' 'v' 0");
        return c;
    }

    /** "from the first one on at first" */
    private static void fromTheFirstOn() {
        servedIs(withThree("from the first one on"), 1, "'t'");
        Client c = withThree("from the first one that is left on");
        tell(c, 1, "60 30 't'");
        servedIs(c, 2, "'u'");
    }

    /** "round": one alone is behind itself. */
    private static void oneConsumerAlone() {
        Client c = withQueue("one alone");
        tell(c, 2, "60 20 'q' 't' 0");
        for (int i = 0; i < 3; i++) {
            servedIs(c, 2, "'t'");
        }
    }

    /** "(in the order in which they came, round ..)" */
    private static void round() {
        Client c = withThree("round");
        for (int i = 0; i < 3; i++) {
            servedIs(c, 1, "'t'");
            servedIs(c, 2, "'u'");
            servedIs(c, 1, "'v'");
        }
    }

    /** "of such consumers the first behind the one who had the queue's latest delivery": who cannot is passed. */
    private static void roundPassesWhoCannot() {
        Client c = withThree("round passes who cannot");
        servedIs(c, 1, "'t'");
        tell(c, 2, "20 20 0");
        servedIs(c, 1, "'v'");
        servedIs(c, 1, "'t'");
        tell(c, 2, "20 20 1");
        servedIs(c, 2, "'u'");
        tell(c, 1, "20 20 0");
        servedIs(c, 2, "'u'");
        tell(c, 1, "20 20 1");
        servedIs(c, 1, "'v'");
    }

    /** "when that one has gone, from the first one that came after it on" */
    private static void latestHasGone() {
        Client c = withThree("the latest has gone");
        servedIs(c, 1, "'t'");
        servedIs(c, 2, "'u'");
        tell(c, 2, "60 30 'u'");
        servedIs(c, 1, "'v'");
        servedIs(c, 1, "'t'");
        Client d = withThree("the first was the latest and has gone");
        servedIs(d, 1, "'t'");
        tell(d, 1, "60 30 't'");
        servedIs(d, 2, "'u'");
        Client e = withThree("the latest and the one after it have gone");
        servedIs(e, 1, "'t'");
        tell(e, 1, "60 30 't'");
        tell(e, 2, "60 30 'u'");
        servedIs(e, 1, "'v'");
    }

    /** "from the first one that came after it on", "round": none came after it. */
    private static void latestHasGoneAndNoneCameAfter() {
        Client c = withThree("the last was the latest and has gone");
        servedIs(c, 1, "'t'");
        servedIs(c, 2, "'u'");
        servedIs(c, 1, "'v'");
        tell(c, 1, "60 30 'v'");
        servedIs(c, 1, "'t'");
        Client d = withThree("the last was the latest and has gone, and another came");
        servedIs(d, 1, "'t'");
        servedIs(d, 2, "'u'");
        servedIs(d, 1, "'v'");
        tell(d, 1, "60 30 'v'");
        tell(d, 2, "60 20 'q' 'w' 0");
        servedIs(d, 2, "'w'");
        servedIs(d, 1, "'t'");
    }

    /** "when that one has gone": one that comes again is another one, the last. */
    private static void latestHasGoneAndCameAgain() {
        Client c = withThree("the latest has gone and came again");
        servedIs(c, 1, "'t'");
        tell(c, 1, "60 30 't'");
        tell(c, 1, "60 20 'q' 't' 0");
        servedIs(c, 2, "'u'");
        servedIs(c, 1, "'v'");
        servedIs(c, 1, "'t'");
        servedIs(c, 2, "'u'");
    }

    /** "the first behind the one who had the queue's latest delivery": others may go. */
    private static void anotherThanTheLatestHasGone() {
        Client c = withThree("another than the latest has gone");
        servedIs(c, 1, "'t'");
        servedIs(c, 2, "'u'");
        tell(c, 1, "60 30 't'");
        servedIs(c, 1, "'v'");
        servedIs(c, 2, "'u'");
        tell(c, 1, "60 30 'v'");
        servedIs(c, 2, "'u'");
    }

    /** "the queue's latest delivery": what is no delivery does not change it. */
    private static void latestStays() {
        for (String method : new String[] {"50 30 'q'", "50 10 'q' 0", "60 110", "60 10 5", "60 80 #0 1", "60 30 'none'"}) {
            Client c = withThree("the latest stays after " + method);
            servedIs(c, 1, "'t'");
            tell(c, 2, "20 20 0");
            tell(c, 1, "20 20 0");
            publish(c, 1);
            tell(c, 3, "60 70 'q' 1");
            tell(c, 3, method);
            tell(c, 2, "20 20 1");
            tell(c, 1, "20 20 1");
            servedIs(c, 2, "'u'");
        }
    }

    /** "the queue's latest delivery": each queue's own; and a get is none. */
    private static void eachQueueHasItsLatest() {
        Client c = withThree("each queue has its latest");
        c.tell(1, "50 10 'p' 0");
        c.tell(1, "60 20 'p' 'x' 0");
        tell(c, 1, "60 20 'p' 'y' 0");
        servedIs(c, 1, "'t'");
        c.publish(3, "''", "'p'");
        c.due("1/1 60 60 'x' #2 0 '' 'p'", "2/1 0");
        servedIs(c, 2, "'u'");
        c.publish(3, "''", "'p'");
        c.due("1/1 60 60 'y' #3 0 '' 'p'", "2/1 0");
        c.tell(1, "20 20 0");
        c.tell(2, "20 20 0");
        publish(c, 1);
        c.tell(2, "60 70 'q' 0");
        c.tell(1, "20 20 1");
        tell(c, 2, "20 20 1");
        servedIs(c, 1, "'v'");
    }

    /** "from the first one on at first": a queue that was deleted and declared again has had no delivery. */
    private static void queueDeclaredAgainBeginsAtFirst() {
        Client c = withThree("a queue declared again");
        servedIs(c, 1, "'t'");
        servedIs(c, 2, "'u'");
        c.tell(1, "50 40 'q' 0");
        c.tell(1, "50 10 'q' 0");
        c.tell(2, "60 20 'q' 'a' 0");
        c.tell(1, "60 20 'q' 'b' 0");
        c.forget();
        servedIs(c, 2, "'a'");
        servedIs(c, 1, "'b'");
        servedIs(c, 2, "'a'");
    }

    /** "After each frame": one with a soft mistake, too; the mistake is told before. */
    private static void afterASoftMistake() {
        Client c = withQueue("after a soft mistake");
        c.tell(1, "60 20 'q' 't' 0");
        tell(c, 2, "60 20 'q' 'u' 0");
        servedIs(c, 1, "'t'");
        c.tell(1, "50 30 'none'");
        c.due("1/1 20 40 #404", "1/2 60 60 'u' #1 1 '' 'q'", "2/2 0");
    }

    /** "on an open line": not when it was shut by the frame. */
    private static void notOnAShutLine() {
        Client c = withQueue("not on a shut line");
        c.tell(1, "60 20 'q' 't' 0");
        tell(c, 2, "60 20 'q' 'u' 0");
        servedIs(c, 1, "'t'");
        c.tell(1, "99 99");
        c.hardIs(503);
        c.queueIs(0, 0, 1);
        c.connectIs(true);
        c.openLine();
        c.forget();
        c.queueIs(0, 0, 1);
    }

    // ---- N and r ----

    /** "N counts the letters that were delivered and gotten on a channel, from 1 on" */
    private static void nCountsFromOne() {
        Client c = withQueue("N counts from 1");
        publish(c, 2);
        c.tell(1, "60 70 'q' 0");
        c.due("1/1 60 71 #1 0 '' 'q' 1", "2/1 0");
        c.tell(1, "60 20 'q' 't' 0");
        c.due("1/1 60 21 't'", "1/1 60 60 't' #2 0 '' 'q'", "2/1 0");
        c.tell(1, "60 30 't'");
        publish(c, 1);
        c.forget();
        c.tell(1, "60 70 'q' 0");
        c.due("1/1 60 71 #3 0 '' 'q' 0", "2/1 0");
        c.tell(1, "60 70 'q' 0");
        c.due("1/1 60 72");
        c.channelIs(1, 2, 3);
    }

    /** "on a channel": each for itself. */
    private static void nIsTheChannels() {
        Client c = withQueue("N is the channel's");
        publish(c, 6);
        for (int i = 1; i <= 2; i++) {
            for (int channel = 1; channel <= 3; channel++) {
                c.tell(channel, "60 70 'q' 0");
                c.channelIs(channel, 2, i);
            }
        }
    }

    /** "(One that is not held has its N, too.)" */
    private static void nOfWhatIsNotHeld() {
        Client c = withQueue("N of what is not held");
        publish(c, 3);
        c.tell(1, "60 70 'q' 1");
        c.tell(1, "60 20 'q' 't' 1");
        c.due("1/1 60 71 #1 0 '' 'q' 2", "2/1 0", "1/1 60 21 't'", "1/1 60 60 't' #2 0 '' 'q'", "2/1 0",
            "1/1 60 60 't' #3 0 '' 'q'", "2/1 0");
        c.channelIs(1, 1, 0);
        c.channelIs(1, 2, 3);
    }

    /** "since it was opened" */
    private static void nSinceItWasOpened() {
        Client c = withQueue("N since it was opened");
        publish(c, 2);
        c.tell(1, "60 70 'q' 0");
        c.tell(1, "60 70 'q' 0");
        c.tell(1, "20 40");
        tell(c, 1, "20 10");
        c.channelIs(1, 2, 0);
        c.tell(1, "60 70 'q' 0");
        c.due("1/1 60 71 #1 1 '' 'q' 1", "2/1 0");
    }

    /** "r (REDELIVERED) is 1 for it from then on": not before, and however often. */
    private static void redeliveredFromThenOn() {
        Client c = withQueue("redelivered from then on");
        publish(c, 1);
        for (int i = 1; i <= 3; i++) {
            c.tell(1, "60 70 'q' 0");
            c.due("1/1 60 71 #" + i + " " + (i == 1 ? 0 : 1) + " '' 'q' 0", "2/1 0");
            c.tell(1, "60 90 #" + i + " 1");
        }
        c.tell(2, "60 20 'q' 't' 0");
        c.due("1/2 60 21 't'", "1/2 60 60 't' #1 1 '' 'q'", "2/2 0");
    }

    /** "60 60 T, N, r, E, K": names of no byte. */
    private static void deliveryWithNamesOfNoByte() {
        Client c = withQueue("a delivery with names of no byte");
        c.tell(1, "40 10 'e' 1 0");
        c.tell(1, "50 20 'q' 'e' ''");
        tell(c, 2, "60 20 'q' '' 0");
        c.publish(1, "'e'", "''");
        c.due("1/2 60 60 '' #1 0 'e' ''", "2/2 0");
    }

    /** "60 60 T, N, r, E, K on its channel, and a head and (if it has bytes) one body": the longest. */
    private static void longestDelivery() {
        Client c = withQueue("the longest delivery");
        c.tell(1, "40 10 'exchange' 2 0");
        c.tell(1, "50 20 'q' 'exchange' '#'");
        tell(c, 2, "60 20 'q' 'tagtagta' 0");
        c.tell(1, "60 40 'exchange' '1.3.5.78' 1");
        c.head(1, 6);
        c.body(1, "255 0 255 0 206 1");
        c.due("1/2 60 60 'tagtagta' #1 0 'exchange' '1.3.5.78'", "2/2 6", "3/2 255 0 255 0 206 1");
    }
}
