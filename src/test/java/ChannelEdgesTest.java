/**
 * The boundary cases that the terms name for channels: lost ones, and what becomes of what they had when they are closed
 * or lost or their line is shut. Each test quotes the words that it is for.
 */
public final class ChannelEdgesTest {
    private static final int CLOSED = 0;
    private static final int LOST = 1;
    private static final int LINE_CLOSED = 2;
    private static final int LINE_SHUT = 3;

    public static void main(String[] args) {
        channelsOneToThree();
        channelIsOpenedAgain();
        channelIsClosedForItself();
        lostDoesNothing();
        lostIsClosed();
        lostIsClosedByNothingElse();
        lostIsNotTheOthers();
        softMistakesAreToldOnTheirChannel();
        for (int end = CLOSED; end <= LINE_SHUT; end++) {
            consumersGo(end);
            lettersGoBack(end);
            lettersGoBackToTheirPlaces(end);
            transactionEnds(end);
            limitIsAsAtFirst(end);
            flowIsAsAtFirst(end);
        }
        incompleteLetterIsGone();
        otherChannelsKeepAll();
        shutLineLeavesNoChannel();
        Client.end();
    }

    /** Channel 1 is closed or lost or its line is shut; nothing is left to receive. */
    private static void end(Client c, int end) {
        c.forget();
        if (end == CLOSED) {
            c.tell(1, "20 40");
            c.due("1/1 20 41");
            c.channelIs(1, 0, 0);
        } else if (end == LOST) {
            c.tell(1, "40 10 '' 0 0");
            c.softIs(1, 403);
        } else if (end == LINE_CLOSED) {
            c.tell(0, "10 50");
            c.due("1/0 10 51");
            c.channelIs(1, 0, 0);
        } else {
            c.send("0");
            c.stepIs(1);
            c.hardIs(501);
            c.channelIs(1, 0, 0);
        }
    }

    /** Channel 1 is open again, as is channel 2; nothing is left to receive. */
    private static void begin(Client c, int end) {
        if (end == LOST) {
            c.tell(1, "20 41");
        } else if (end != CLOSED) {
            c.connectIs(true);
            c.openLine();
            c.tell(2, "20 10");
        }
        c.tell(1, "20 10");
        c.forget();
    }

    private static Client withQueue(String story, int end) {
        Client c = Client.open(story + new String[] {", closed", ", lost", ", line closed", ", line shut"}[end], 2);
        c.tell(1, "50 10 'q' 0");
        c.forget();
        return c;
    }

    // ---- opening, closing, losing ----

    /** "CHANNELS 1 .. 3 are CLOSED, OPEN, or LOST": the first and the last one. */
    private static void channelsOneToThree() {
        for (int channel = 1; channel <= 3; channel++) {
            Client c = Client.inState("channel " + channel, 4);
            c.tell(channel, "20 10");
            c.due("1/" + channel + " 20 11");
            for (int other = 1; other <= 3; other++) {
                c.channelIs(other, 0, other == channel ? 1 : 0);
            }
            c.tell(channel, "20 40");
            c.due("1/" + channel + " 20 41");
            c.channelIs(channel, 0, 0);
        }
    }

    /** "a method 20 10 on a closed one is answered by 20 11": as often as it is closed. */
    private static void channelIsOpenedAgain() {
        Client c = Client.inState("opened again", 4);
        for (int i = 0; i < 4; i++) {
            c.tell(3, "20 10");
            c.tell(3, "20 40");
            c.due("1/3 20 11", "1/3 20 41");
        }
    }

    /** "on an open one, 20 40 is answered by 20 41, it is closed": not on a closed one. */
    private static void channelIsClosedForItself() {
        Client c = Client.open("closed for itself", 3);
        c.tell(2, "20 40");
        c.due("1/2 20 41");
        c.channelIs(1, 0, 1);
        c.channelIs(2, 0, 0);
        c.channelIs(3, 0, 1);
        c.tell(2, "20 40");
        c.hardIs(503);
    }

    /** "On a lost one every frame does nothing" */
    private static void lostDoesNothing() {
        Client c = withQueue("a lost one", LOST);
        end(c, LOST);
        for (String payload : new String[] {"50 10 'p' 0", "60 40 '' 'q' 0", "60 20 'q' 't' 0", "50 40 'q' 0", "20 10",
            "20 40", "90 10", "10 50", "0 0", "", "20"}) {
            c.tell(1, payload);
            c.channelIs(1, 0, 2);
        }
        c.head(1, 0);
        c.body(1, "1");
        c.head(1, 7);
        c.body(1, "");
        c.due();
        c.channelIs(1, 0, 2);
        c.queueIs(0, 0, 0);
        c.queueIs(0, 1, 0);
        c.queueIs(1, 0, LetterBroker.NONE);
        c.lineIs(4);
    }

    /** "but a METHOD with 20 41 and nothing behind it: it is closed" */
    private static void lostIsClosed() {
        Client c = withQueue("20 41", LOST);
        end(c, LOST);
        c.tell(1, "20 41");
        c.due();
        c.channelIs(1, 0, 0);
        c.tell(1, "20 41");
        c.hardIs(503);
    }

    /** "a METHOD with 20 41 and nothing behind it": something else is nothing. */
    private static void lostIsClosedByNothingElse() {
        Client c = withQueue("almost 20 41", LOST);
        end(c, LOST);
        for (String payload : new String[] {"20 41 0", "20 41 20 41", "20 40", "20 42", "21 41", "19 41", "20", "",
            "41 20", "0 20 41"}) {
            c.tell(1, payload);
            c.channelIs(1, 0, 2);
        }
        c.frame(2, 1, "20 41");
        c.frame(3, 1, "20 41");
        c.channelIs(1, 0, 2);
        c.tell(1, "20");
        c.tell(1, "20 41");
        c.channelIs(1, 0, 0);
        c.due();
    }

    /** "On a lost one": the others go on. */
    private static void lostIsNotTheOthers() {
        Client c = Client.open("the others", 3);
        c.tell(2, "50 10 '' 0");
        c.softIs(2, 403);
        c.channelIs(1, 0, 1);
        c.channelIs(3, 0, 1);
        c.tell(1, "60 10 0");
        c.tell(3, "60 10 0");
        c.due("1/1 60 11", "1/3 60 11");
    }

    /** "A SOFT one: it sends 20 40 and the short number on the channel, and the channel is lost." */
    private static void softMistakesAreToldOnTheirChannel() {
        for (int channel = 1; channel <= 3; channel++) {
            Client c = Client.open("soft mistakes on channel " + channel, 3);
            c.tell(channel, "60 70 'none' 0");
            c.softIs(channel, 404);
            c.reopen(channel);
            c.tell(channel, "50 10 '' 0");
            c.softIs(channel, 403);
            c.reopen(channel);
            c.tell(channel, "90 20");
            c.softIs(channel, 406);
        }
    }

    // ---- what goes with a channel ----

    /** "its consumers go" */
    private static void consumersGo(int end) {
        Client c = withQueue("consumers go", end);
        c.tell(1, "60 20 'q' 't' 0");
        c.tell(1, "60 20 'q' 'u' 1");
        c.tell(2, "60 20 'q' 't' 0");
        c.queueIs(0, 1, 3);
        end(c, end);
        c.queueIs(0, 1, end <= LOST ? 1 : 0);
        begin(c, end);
        c.tell(1, "60 20 'q' 't' 0");
        c.due("1/1 60 21 't'");
        c.queueIs(0, 1, end <= LOST ? 2 : 1);
    }

    /** "the letters that it holds go BACK" */
    private static void lettersGoBack(int end) {
        Client c = withQueue("letters go back", end);
        c.publish(2, "''", "'q'");
        c.publish(2, "''", "'q'");
        c.tell(1, "60 70 'q' 0");
        c.tell(1, "60 70 'q' 0");
        c.channelIs(1, 1, 2);
        c.queueIs(0, 0, 0);
        end(c, end);
        c.channelIs(1, 1, 0);
        c.queueIs(0, 0, 2);
        begin(c, end);
        c.tell(1, "60 70 'q' 0");
        c.tell(1, "60 70 'q' 0");
        c.due("1/1 60 71 #1 1 '' 'q' 1", "2/1 0", "1/1 60 71 #2 1 '' 'q' 0", "2/1 0");
    }

    /** "the letters that it holds go BACK": among those that wait. */
    private static void lettersGoBackToTheirPlaces(int end) {
        Client c = withQueue("back to their places", end);
        for (int i = 1; i <= 4; i++) {
            c.publish(2, "''", "'q'");
        }
        c.tell(2, "60 70 'q' 0");
        c.tell(1, "60 70 'q' 0");
        c.tell(2, "60 70 'q' 0");
        c.tell(2, "60 120 #0 1 1");
        c.queueIs(0, 3, 1);
        end(c, end);
        c.queueIs(0, 0, 4);
        begin(c, end);
        for (int i = 1; i <= 4; i++) {
            c.queueIs(0, 3, i);
            c.tell(1, "60 70 'q' 1");
            c.due("1/1 60 71 #" + i + " " + (i < 4 ? 1 : 0) + " '' 'q' " + (4 - i), "2/1 0");
        }
    }

    /** "its transaction ends without doing anything" */
    private static void transactionEnds(int end) {
        Client c = withQueue("its transaction ends", end);
        c.publish(2, "''", "'q'");
        c.tell(1, "60 70 'q' 0");
        c.tell(1, "90 10");
        c.publish(1, "''", "'q'");
        c.tell(1, "60 80 #1 0");
        c.channelIs(1, 3, 2);
        end(c, end);
        c.channelIs(1, 3, 0);
        c.queueIs(0, 0, 1);
        c.queueIs(0, 3, 1);
        begin(c, end);
        c.publish(1, "''", "'q'");
        c.channelIs(1, 3, 0);
        c.queueIs(0, 0, 2);
        c.tell(1, "90 20");
        c.softIs(1, 406);
        c.queueIs(0, 0, 2);
    }

    /** "limit .. as at first when it is opened" */
    private static void limitIsAsAtFirst(int end) {
        Client c = withQueue("the limit is as at first", end);
        c.publish(2, "''", "'q'");
        c.tell(1, "60 70 'q' 1");
        c.tell(1, "60 10 1");
        end(c, end);
        begin(c, end);
        c.tell(1, "60 20 'q' 't' 0");
        for (int i = 0; i < 3; i++) {
            c.publish(1, "''", "'q'");
        }
        c.channelIs(1, 1, 3);
    }

    /** "flow .. as at first when it is opened" */
    private static void flowIsAsAtFirst(int end) {
        Client c = withQueue("the flow is as at first", end);
        c.publish(2, "''", "'q'");
        c.tell(1, "60 70 'q' 1");
        c.tell(1, "20 20 0");
        end(c, end);
        begin(c, end);
        c.tell(1, "60 20 'q' 't' 0");
        c.publish(1, "''", "'q'");
        c.channelIs(1, 1, 1);
    }

    /** "a letter that is not complete is gone": when the line is shut, for all else is 505 where a head or body is due. */
    private static void incompleteLetterIsGone() {
        for (int end = LINE_CLOSED; end <= LINE_SHUT; end++) {
            for (int length = 0; length <= 3; length++) {
                Client c = withQueue("an incomplete letter, " + length, end);
                c.tell(1, "60 40 '' 'q' 0");
                if (length > 0) {
                    c.head(1, length);
                }
                if (length > 1) {
                    c.body(1, "1");
                }
                end(c, end);
                begin(c, end);
                c.tell(1, "60 10 0");
                c.due("1/1 60 11");
                c.queueIs(0, 0, 0);
                c.frame(length == 0 ? 2 : 3, 1, "1");
                c.hardIs(505);
                c.queueIs(0, 0, 0);
            }
        }
    }

    /** "A channel that is closed or lost": what others have stays. */
    private static void otherChannelsKeepAll() {
        for (int end = CLOSED; end <= LOST; end++) {
            Client c = withQueue("others keep all", end);
            c.publish(2, "''", "'q'");
            c.tell(2, "60 70 'q' 0");
            c.tell(2, "90 10");
            c.tell(2, "60 80 #1 0");
            c.tell(2, "20 20 0");
            c.tell(2, "60 20 'q' 't' 0");
            c.tell(2, "60 40 '' 'q' 0");
            end(c, end);
            c.channelIs(2, 0, 1);
            c.channelIs(2, 1, 1);
            c.channelIs(2, 2, 1);
            c.channelIs(2, 3, 1);
            c.queueIs(0, 1, 1);
            c.queueIs(0, 0, 0);
            c.head(2, 0);
            c.channelIs(2, 3, 2);
        }
    }

    /** "whose line is shut": then all three channels are closed, whatever they were. */
    private static void shutLineLeavesNoChannel() {
        for (int end = LINE_CLOSED; end <= LINE_SHUT; end++) {
            Client c = Client.open("no channel is left", 2);
            c.tell(2, "50 10 '' 0");
            c.softIs(2, 403);
            end(c, end);
            for (int channel = 1; channel <= 3; channel++) {
                c.channelIs(channel, 0, 0);
            }
            c.connectIs(true);
            c.openLine();
            c.tell(2, "20 10");
            c.channelIs(2, 0, 1);
        }
    }
}
