/**
 * The boundary cases that promises 1 to 9 name in their own sections: what each call of the face refuses, and where its
 * answers begin and end. Each test quotes the words that it is for.
 */
public final class CallEdgesTest {
    private static final int NONE = LetterBroker.NONE;
    private static final int[] NO_CHANNEL = {0, 4, 5, -1, -2, 256, 257, Integer.MIN_VALUE, Integer.MAX_VALUE};
    private static final int[] NO_WHAT = {-1, 4, 5, -2, 256, Integer.MIN_VALUE, Integer.MAX_VALUE};

    public static void main(String[] args) {
        newLine();
        newHasNoQueues();
        newHasNoExchangeButOne();
        newHasClosedChannels();
        sendTellsAllUnhandled();
        sendTakesTheLowest();
        sendTakesTheHighestFirst();
        sendToAShutLine();
        sendOfTooFew();
        sendOfOneToEight();
        sendOfTooMany();
        sendUpTo300();
        sendBeyond300();
        sendWhenAFrameWasHandled();
        stepOfOneFrame();
        stepWithNothing();
        stepWithAPart();
        stepWithSomethingWrong();
        stepOnAShutLine();
        stepWith499();
        stepWith500();
        stepWith500AndNothing();
        stepWith500AndSomethingWrong();
        shutForgetsUnhandled();
        readyOfNothing();
        readyCountsEachByte();
        receiveOfNothing();
        receiveOfTheGreatestByte();
        receiveFromAShutLine();
        lineInEachState();
        connectWhenNotShut();
        connectWhenShut();
        connectAfterEachMistake();
        connectKeepsWhatWaits();
        connectKeepsQueuesAndLetters();
        channelStates();
        channelHolds();
        channelN();
        channelNStaysWhenClosed();
        channelNStaysWhenLost();
        channelKeeps();
        noSuchChannel();
        noSuchWhatOfAChannel();
        queueWaits();
        queueConsumers();
        queueBindings();
        queueFirstLetter();
        queueFirstLetterOfNone();
        noSuchQueue();
        noSuchWhatOfAQueue();
        queueByDeclaration();
        lastCall();
        Client.end();
    }

    // ---- promise 1 ----

    /** "A new line" */
    private static void newLine() {
        Client c = new Client("a new line");
        c.lineIs(0);
        c.readyIs(0);
        c.sendIs(65, 1, 1);
    }

    /** "no queues" */
    private static void newHasNoQueues() {
        Client c = new Client("no queues");
        for (int what = 0; what <= 3; what++) {
            c.queueIs(0, what, NONE);
        }
        Client.soft("no queue that must be there", 404, "50 10 'q' 1");
    }

    /** "no exchange but the nameless one" */
    private static void newHasNoExchangeButOne() {
        Client.soft("no exchange that must be there", 404, "40 10 'e' 0 1");
        Client.soft("the nameless exchange is there", 403, "40 10 '' 0 1");
        Client c = Client.open("room for five more exchanges", 1);
        for (int i = 1; i <= 5; i++) {
            c.tell(1, "40 10 'e" + i + "' 0 0");
            c.due("1/1 40 11");
        }
    }

    private static void newHasClosedChannels() {
        Client c = new Client("closed channels");
        for (int channel = 1; channel <= 3; channel++) {
            for (int what = 0; what <= 3; what++) {
                c.channelIs(channel, what, 0);
            }
        }
    }

    // ---- promise 2 ----

    /** "how many bytes are not yet handled" */
    private static void sendTellsAllUnhandled() {
        Client c = new Client("bytes that are not yet handled");
        c.sendIs(65, 1, 1);
        c.sendIs(0x4D51, 2, 3);
        c.sendIs(0x5000000901L, 5, 8);
        c.sendIs(0x01, 1, 9);
        c.stepIs(1);
        c.sendIs(0x00, 1, 2);
        c.stepIs(0);
        c.sendIs(0x020A0B, 3, 5);
        c.sendIs(0xCE, 1, 6);
        c.stepIs(1);
        c.sendIs(0x01, 1, 1);
    }

    /** "the lowest n of bytes" */
    private static void sendTakesTheLowest() {
        Client c = new Client("the lowest n bytes");
        c.sendIs(-1L << 8 | 65, 1, 1);
        c.sendIs(0x6666_6666_6666_4D51L, 2, 3);
        c.sendIs(0x8000_0050_0000_0901L, 5, 8);
        c.stepIs(1);
        c.due("1/0 10 10");
    }

    /** "the highest of them first" */
    private static void sendTakesTheHighestFirst() {
        Client c = new Client("the highest byte first");
        c.sendIs(0x414D_5150_0000_0901L, 8, 8);
        c.stepIs(1);
        c.due("1/0 10 10");
        Client d = new Client("the lowest byte is not the first");
        d.sendIs(0x0109_0000_5051_4D41L, 8, 8);
        d.stepIs(1);
        d.hardIs(501);
    }

    /** "NONE, and nothing is done, when the line is shut" */
    private static void sendToAShutLine() {
        Client c = Client.inState("send to a line that was closed", 4);
        c.tell(0, "10 50");
        c.sendIs(65, 1, NONE);
        c.connectIs(true);
        c.sendIs(65, 1, 1);
        Client d = Client.inState("send to a line shut by a mistake", 0);
        d.sendIs(0, 1, 1);
        d.stepIs(1);
        d.sendIs(65, 1, NONE);
        d.sendIs(65, 8, NONE);
        d.connectIs(true);
        d.sendIs(65, 1, 1);
    }

    /** "n is not 1 .. 8": too small. */
    private static void sendOfTooFew() {
        for (int n : new int[] {0, -1, -8, Integer.MIN_VALUE}) {
            Client c = new Client("send of too few");
            c.sendIs(0, n, NONE);
            c.stepIs(0);
            c.sendIs(65, 1, 1);
        }
    }

    /** "n is not 1 .. 8": each that is. */
    private static void sendOfOneToEight() {
        for (int n = 1; n <= 8; n++) {
            Client c = new Client("send of " + n);
            c.sendIs(0x414D_5150_0000_0901L >>> 8 * (8 - n), n, n);
            c.stepIs(n == 8 ? 1 : 0);
            c.lineIs(n == 8 ? 1 : 0);
        }
    }

    /** "n is not 1 .. 8": too large. */
    private static void sendOfTooMany() {
        for (int n : new int[] {9, 10, 256, 257, Integer.MAX_VALUE}) {
            Client c = new Client("send of too many");
            c.sendIs(0x414D_5150_0000_0901L, n, NONE);
            c.stepIs(0);
            c.lineIs(0);
            c.sendIs(65, 1, 1);
        }
    }

    /** A line with 294 bytes that are not handled: 49 frames that open and close channel 1 in turn. */
    private static Client with294(String story) {
        Client c = Client.inState(story, 4);
        for (int i = 1; i <= 49; i++) {
            c.sendIs(frameToOpenOrClose(i), 6, 6 * i);
        }
        return c;
    }

    private static long frameToOpenOrClose(int i) {
        return i % 2 == 1 ? 0x0101_0214_0ACEL : 0x0101_0214_28CEL;
    }

    private static void openedAndClosed(Client c, int times) {
        for (int i = 1; i <= times; i++) {
            c.stepIs(1);
            c.channelIs(1, 0, i % 2);
        }
        c.stepIs(0);
        c.readyIs(6 * times);
    }

    /** "there would be more than 300": not yet. */
    private static void sendUpTo300() {
        Client c = with294("300 bytes, the last six at once");
        c.sendIs(frameToOpenOrClose(50), 6, 300);
        openedAndClosed(c, 50);
        Client d = with294("300 bytes, the last ones one by one");
        for (int i = 1; i <= 6; i++) {
            d.sendIs(frameToOpenOrClose(50) >>> 8 * (6 - i), 1, 294 + i);
        }
        openedAndClosed(d, 50);
    }

    /** "NONE, and nothing is done, when .. there would be more than 300" */
    private static void sendBeyond300() {
        Client c = with294("more than 300 bytes");
        c.sendIs(0, 7, NONE);
        c.sendIs(0, 8, NONE);
        c.sendIs(frameToOpenOrClose(50) >>> 8, 5, 299);
        c.sendIs(0, 2, NONE);
        c.sendIs(frameToOpenOrClose(50), 1, 300);
        for (int n = 1; n <= 8; n++) {
            c.sendIs(0, n, NONE);
        }
        openedAndClosed(c, 50);
    }

    /** "there would be more than 300" of those "not yet handled": what was handled does not count. */
    private static void sendWhenAFrameWasHandled() {
        Client c = with294("room again when a frame was handled");
        c.sendIs(frameToOpenOrClose(50), 6, 300);
        c.stepIs(1);
        c.sendIs(0, 7, NONE);
        c.sendIs(frameToOpenOrClose(51), 6, 300);
        c.sendIs(0, 1, NONE);
    }

    // ---- promise 3 ----

    /** "Handles the next frame (or greeting), if it is there": one a step. */
    private static void stepOfOneFrame() {
        Client c = new Client("one a step");
        c.send("65 77 81 80 0 0 9 1 1 0 2 10 11 206 1 0 2 10 31 206");
        for (int state = 1; state <= 3; state++) {
            c.stepIs(1);
            c.lineIs(state);
        }
        c.stepIs(0);
        c.due("1/0 10 10", "1/0 10 30");
    }

    /** "0 when there is nothing to handle yet": no byte. */
    private static void stepWithNothing() {
        for (int state = 0; state <= 4; state++) {
            Client c = Client.inState("step with no byte", state);
            c.stepIs(0);
            c.stepIs(0);
            c.lineIs(state);
            c.readyIs(0);
        }
    }

    /** "0 when there is nothing to handle yet": all but the last byte. */
    private static void stepWithAPart() {
        Client c = Client.inState("step with a part of the greeting", 0);
        for (int b : new int[] {65, 77, 81, 80, 0, 0, 9}) {
            c.send("" + b);
            c.stepIs(0);
        }
        c.send("1");
        c.stepIs(1);
        for (int state = 1; state <= 4; state++) {
            Client d = Client.inState("step with a part of a frame", state);
            for (String b : ("1 0 2 " + Client.LINE_METHODS[state - 1]).split(" ")) {
                d.send(b);
                d.stepIs(0);
                d.lineIs(state);
            }
            d.send("206");
            d.stepIs(1);
            d.lineIs(state + 1);
        }
    }

    /** "or wrong: 1" */
    private static void stepWithSomethingWrong() {
        for (int state = 0; state <= 4; state++) {
            Client c = Client.inState("step with something wrong", state);
            c.sendIs(0, 1, 1);
            c.stepIs(1);
            c.hardIs(501);
        }
    }

    /** "NONE when the line is shut" */
    private static void stepOnAShutLine() {
        Client c = Client.inState("step on a closed line", 4);
        c.tell(0, "10 50");
        c.stepIs(NONE);
        c.due("1/0 10 51");
        c.stepIs(NONE);
        c.connectIs(true);
        c.stepIs(0);
        Client d = Client.inState("step on a line shut by a mistake", 1);
        d.tell(0, "10 31");
        d.stepIs(NONE);
        d.hardIs(503);
        d.stepIs(NONE);
    }

    /** An open channel 1 where so many bytes wait; frames "60 10 0" are answered by six of them, "20 20 0" by seven. */
    private static Client withWaiting(String story, int bytes) {
        Client c = Client.open(story, 1);
        for (int i = 0; i < bytes % 6; i++) {
            c.tell(1, "20 20 0");
        }
        for (int i = bytes % 6; i < bytes / 6; i++) {
            c.tell(1, "60 10 0");
        }
        c.readyIs(bytes);
        return c;
    }

    /** "500 bytes or more wait to be received": not yet. */
    private static void stepWith499() {
        Client c = withWaiting("step when 499 wait", 499);
        c.stepIs(0);
        c.tell(1, "60 10 0");
        c.readyIs(505);
    }

    /** "NONE when .. 500 bytes or more wait to be received" */
    private static void stepWith500() {
        Client c = withWaiting("step when 500 wait", 500);
        c.send("1 1 2 20 40 206");
        c.stepIs(NONE);
        c.channelIs(1, 0, 1);
        c.readyIs(500);
        c.receiveIs(1);
        c.stepIs(1);
        c.channelIs(1, 0, 0);
        c.readyIs(505);
        c.stepIs(NONE);
        c.sendIs(1, 1, 1);
    }

    /** "NONE when .. 500 bytes or more wait": also when there is nothing to handle. */
    private static void stepWith500AndNothing() {
        for (int bytes : new int[] {500, 501, 504}) {
            Client c = withWaiting("step when " + bytes + " wait and nothing came", bytes);
            c.stepIs(NONE);
        }
    }

    /** "NONE when .. 500 bytes or more wait": a wrong byte is not looked at before. */
    private static void stepWith500AndSomethingWrong() {
        Client c = withWaiting("step when 500 wait and a byte is wrong", 500);
        c.send("0");
        c.stepIs(NONE);
        c.lineIs(4);
        c.receiveIs(1);
        c.stepIs(1);
        c.lineIs(5);
    }

    /** "(When it becomes shut, bytes that are not handled are gone.)" */
    private static void shutForgetsUnhandled() {
        Client c = Client.inState("unhandled bytes of a closed line", 4);
        c.send("1 0 2 10 50 206 65 77 81");
        c.stepIs(1);
        c.connectIs(true);
        c.stepIs(0);
        c.sendIs(65, 1, 1);
        for (String wrong : new String[] {"66 65 77", "65 77 81 80 0 0 9 2 65 77", "1 0 2 10 11 206 65"}) {
            Client d = Client.inState("unhandled bytes of a line shut by a mistake", 0);
            d.send(wrong);
            d.stepIs(1);
            d.connectIs(true);
            d.stepIs(0);
            d.lineIs(0);
            d.sendIs(65, 1, 1);
        }
        Client e = Client.open("unhandled bytes behind a mistake of a frame", 1);
        e.send("1 1 2 99 99 206 1 1 2 20 40 206");
        e.stepIs(1);
        e.hardIs(503);
        e.connectIs(true);
        e.sendIs(65, 1, 1);
    }

    // ---- promises 4 and 5 ----

    /** "How many bytes wait to be received": none. */
    private static void readyOfNothing() {
        Client c = Client.inState("nothing is ready", 0);
        c.readyIs(0);
        c.receiveIs(NONE);
        c.readyIs(0);
    }

    /** "How many bytes wait to be received": from the first to the last. */
    private static void readyCountsEachByte() {
        Client c = new Client("ready counts each byte");
        c.send("65 77 81 80 0 0 9 1");
        c.readyIs(0);
        c.stepIs(1);
        for (int left = 6; left > 0; left--) {
            c.readyIs(left);
            c.receiveIs(new int[] {206, 10, 10, 2, 0, 1}[left - 1]);
        }
        c.readyIs(0);
    }

    /** "NONE when none waits" */
    private static void receiveOfNothing() {
        Client c = new Client("receive of nothing");
        c.receiveIs(NONE);
        c.send("65 77 81 80 0 0 9 1");
        c.receiveIs(NONE);
        c.stepIs(1);
        c.due("1/0 10 10");
        c.receiveIs(NONE);
        c.receiveIs(NONE);
        c.tell(0, "10 11");
        c.due("1/0 10 30");
        c.receiveIs(NONE);
    }

    /** "Receives a byte": 255 is not NONE, and 0 is a byte. */
    private static void receiveOfTheGreatestByte() {
        Client c = Client.open("receive of the greatest byte", 1);
        c.tell(1, "20 20 255");
        for (int due : new int[] {1, 1, 3, 20, 21, 255, 206}) {
            c.receiveIs(due);
        }
        c.tell(1, "20 20 0");
        for (int due : new int[] {1, 1, 3, 20, 21, 0, 206}) {
            c.receiveIs(due);
        }
        c.receiveIs(NONE);
    }

    /** "Receives a byte that the broker sent": also when the line is shut. */
    private static void receiveFromAShutLine() {
        Client c = Client.inState("receive from a shut line", 4);
        c.tell(0, "10 50");
        c.readyIs(6);
        c.due("1/0 10 51");
        c.receiveIs(NONE);
    }

    // ---- promises 6 and 7 ----

    /** "0 NEW, 1 GREETED, 2 TUNED, 3 READY, 4 OPEN, 5 SHUT" */
    private static void lineInEachState() {
        for (int state = 0; state <= 4; state++) {
            Client.inState("line()", state).lineIs(state);
        }
        Client c = Client.inState("line() of a shut line", 4);
        c.tell(0, "10 50");
        c.lineIs(5);
        c.connectIs(true);
        c.lineIs(0);
    }

    /** "false when it is not shut" */
    private static void connectWhenNotShut() {
        for (int state = 0; state <= 4; state++) {
            Client c = Client.inState("connect when not shut", state);
            c.sendIs(state == 0 ? 65 : 1, 1, 1);
            c.connectIs(false);
            c.lineIs(state);
            c.sendIs(state == 0 ? 77 : 0, 1, 2);
            c.stepIs(0);
        }
        Client d = Client.open("connect does not close channels", 1);
        d.connectIs(false);
        d.channelIs(1, 0, 1);
    }

    /** "A shut line becomes a new one: true" */
    private static void connectWhenShut() {
        Client c = Client.inState("connect when shut", 0);
        for (int i = 0; i < 3; i++) {
            c.send("1");
            c.stepIs(1);
            c.hardIs(501);
            c.connectIs(true);
            c.lineIs(0);
            c.connectIs(false);
        }
        c.send("65 77 81 80 0 0 9 1");
        c.stepIs(1);
        c.due("1/0 10 10");
    }

    /** "A shut line becomes a new one": whatever mistake shut the other. */
    private static void connectAfterEachMistake() {
        for (String wrong : new String[] {"1 0 1 10 206", "1 1 2 60 10 206", "1 1 5 60 30 9 0 0 206", "2 1 0 206", "1 1 2 0 0 206",
            "1 3 2 20 40 206", "0", "1 4", "1 0 41", "1 0 0 0", "1 0 2 10 50 206"}) {
            Client c = Client.open("connect after " + wrong, 1);
            c.send(wrong);
            c.stepIs(1);
            c.lineIs(5);
            c.connectIs(true);
            c.forget();
            c.openLine();
            c.tell(1, "20 10");
            c.due("1/0 10 10", "1/0 10 30", "1/0 10 41", "1/1 20 11");
        }
    }

    /** "(What waits to be received stays.)" */
    private static void connectKeepsWhatWaits() {
        Client c = Client.inState("what waits stays", 1);
        c.tell(0, "10 11");
        c.tell(0, "10 11");
        c.connectIs(true);
        c.due("1/0 10 30", "1/0 10 50 #503");
        Client d = withWaiting("500 that wait stay", 494);
        d.tell(0, "10 50");
        d.readyIs(500);
        d.connectIs(true);
        d.readyIs(500);
        d.send("65 77 81 80 0 0 9 1");
        d.stepIs(NONE);
        d.receiveIs(1);
        d.stepIs(1);
        d.lineIs(1);
    }

    /** "A shut line becomes a new one": the line alone. */
    private static void connectKeepsQueuesAndLetters() {
        Client c = Client.open("queues and letters stay", 1);
        c.tell(1, "40 10 'e' 1 0");
        c.tell(1, "50 10 'q' 0");
        c.tell(1, "50 20 'q' 'e' 'k'");
        c.publish(1, "'e'", "''");
        c.tell(0, "10 50");
        c.connectIs(true);
        c.queueIs(0, 0, 1);
        c.queueIs(0, 2, 1);
        c.openLine();
        c.tell(1, "20 10");
        c.publish(1, "'e'", "''");
        c.queueIs(0, 0, 2);
        c.queueIs(0, 3, 1);
    }

    // ---- promise 8 ----

    /** "0 closed, 1 open, 2 lost" */
    private static void channelStates() {
        Client c = Client.inState("a channel's states", 4);
        for (int channel = 1; channel <= 3; channel++) {
            c.channelIs(channel, 0, 0);
            c.tell(channel, "20 10");
            c.channelIs(channel, 0, 1);
            c.tell(channel, "50 10 '' 0");
            c.channelIs(channel, 0, 2);
            c.tell(channel, "20 41");
            c.channelIs(channel, 0, 0);
        }
    }

    /** "1: how many letters it holds": none, and as many as there can be. */
    private static void channelHolds() {
        Client c = holding("how many it holds", 24);
        c.channelIs(1, 1, 24);
        c.channelIs(2, 1, 0);
        c.tell(1, "60 80 #24 0");
        c.channelIs(1, 1, 23);
        c.tell(1, "60 80 #0 1");
        c.channelIs(1, 1, 0);
    }

    /** Channel 1 holds so many letters of the queue q, delivered as 1, 2, .. */
    private static Client holding(String story, int letters) {
        Client c = Client.open(story, 2);
        c.tell(1, "50 10 'q' 0");
        for (int i = 0; i < letters; i++) {
            c.publish(2, "''", "'q'");
        }
        c.tell(1, "60 20 'q' 't' 0");
        c.tell(1, "60 30 't'");
        return c;
    }

    /** "2: its N so far" */
    private static void channelN() {
        Client c = Client.open("N so far", 2);
        c.tell(1, "50 10 'q' 0");
        c.channelIs(1, 2, 0);
        c.tell(1, "60 70 'q' 0");
        c.channelIs(1, 2, 0);
        for (int i = 1; i <= 9; i++) {
            c.publish(2, "''", "'q'");
            c.tell(1, "60 70 'q' " + i % 2);
            c.channelIs(1, 2, i);
        }
        c.tell(1, "60 110");
        c.channelIs(1, 2, 9);
        c.channelIs(2, 2, 0);
    }

    /** "(that of a channel that is closed stays until it is opened again)" */
    private static void channelNStaysWhenClosed() {
        Client c = holding("N of a closed channel", 3);
        c.tell(1, "20 40");
        c.channelIs(1, 0, 0);
        c.channelIs(1, 2, 3);
        c.tell(0, "10 50");
        c.channelIs(1, 2, 3);
        c.connectIs(true);
        c.openLine();
        c.channelIs(1, 2, 3);
        c.tell(1, "20 10");
        c.channelIs(1, 2, 0);
    }

    /** "its N so far": a lost channel's stays, too, for it was not opened again. */
    private static void channelNStaysWhenLost() {
        Client c = holding("N of a lost channel", 3);
        c.tell(1, "50 10 '' 0");
        c.channelIs(1, 0, 2);
        c.channelIs(1, 2, 3);
        c.tell(1, "20 41");
        c.channelIs(1, 2, 3);
        c.tell(1, "20 10");
        c.channelIs(1, 2, 0);
    }

    /** "3: how much it keeps for a commit": none, and as much as it can. */
    private static void channelKeeps() {
        Client c = holding("how much it keeps", 1);
        c.tell(1, "60 80 #0 1");
        c.channelIs(1, 3, 0);
        c.tell(1, "90 10");
        c.channelIs(1, 3, 0);
        for (int i = 1; i <= 12; i++) {
            c.tell(1, "60 80 #0 1");
            c.channelIs(1, 3, i);
        }
        c.tell(1, "90 20");
        c.channelIs(1, 3, 0);
    }

    /** "NONE when there is no such channel" */
    private static void noSuchChannel() {
        Client c = Client.open("no such channel", 3);
        for (int channel : NO_CHANNEL) {
            for (int what = -1; what <= 4; what++) {
                c.channelIs(channel, what, NONE);
            }
        }
        new Client("no channel 0 of a new object").channelIs(0, 0, NONE);
    }

    /** "NONE when .. what is not 0 .. 3" */
    private static void noSuchWhatOfAChannel() {
        Client c = Client.open("no such what of a channel", 1);
        for (int channel = 1; channel <= 3; channel++) {
            for (int what : NO_WHAT) {
                c.channelIs(channel, what, NONE);
            }
        }
    }

    // ---- promise 9 ----

    /** "how many letters wait": none, and as many as there can be. */
    private static void queueWaits() {
        Client c = Client.open("how many wait", 1);
        c.tell(1, "50 10 'q' 0");
        c.queueIs(0, 0, 0);
        for (int i = 1; i <= 24; i++) {
            c.publish(1, "''", "'q'");
            c.queueIs(0, 0, i);
        }
        c.tell(1, "60 70 'q' 0");
        c.queueIs(0, 0, 23);
    }

    /** "how many consumers it has": none, and as many as there can be. */
    private static void queueConsumers() {
        Client c = Client.open("how many consumers", 1);
        c.tell(1, "50 10 'q' 0");
        c.tell(1, "50 10 'p' 0");
        c.queueIs(0, 1, 0);
        for (int i = 1; i <= 6; i++) {
            c.tell(1, "60 20 'q' 't" + i + "' 0");
            c.queueIs(0, 1, i);
        }
        c.queueIs(1, 1, 0);
    }

    /** "how many bindings": none, and as many as there can be. */
    private static void queueBindings() {
        Client c = Client.open("how many bindings", 1);
        c.tell(1, "40 10 'e' 0 0");
        c.tell(1, "50 10 'q' 0");
        c.tell(1, "50 10 'p' 0");
        c.queueIs(0, 2, 0);
        for (int i = 1; i <= 12; i++) {
            c.tell(1, "50 20 'q' 'e' 'k" + i + "'");
            c.queueIs(0, 2, i);
        }
        c.queueIs(1, 2, 0);
    }

    /** "the number of its first letter that waits" */
    private static void queueFirstLetter() {
        Client c = Client.open("the first that waits", 1);
        c.tell(1, "50 10 'q' 0");
        c.publish(1, "''", "'q'");
        c.publish(1, "''", "'q'");
        c.queueIs(0, 3, 1);
        c.tell(1, "60 70 'q' 0");
        c.queueIs(0, 3, 2);
        c.tell(1, "60 110");
        c.queueIs(0, 3, 1);
    }

    /** "0 for none" */
    private static void queueFirstLetterOfNone() {
        Client c = Client.open("none waits", 1);
        c.tell(1, "50 10 'q' 0");
        c.queueIs(0, 3, 0);
        c.publish(1, "''", "'q'");
        c.tell(1, "60 70 'q' 0");
        c.queueIs(0, 3, 0);
        c.publish(1, "''", "'q'");
        c.queueIs(0, 3, 2);
        c.tell(1, "50 30 'q'");
        c.queueIs(0, 3, 0);
    }

    /** "NONE when there is no such queue" */
    private static void noSuchQueue() {
        Client c = Client.open("no such queue", 1);
        for (int queues = 0; queues <= 5; queues++) {
            for (int what = 0; what <= 3; what++) {
                c.queueIs(queues, what, NONE);
                c.queueIs(-1, what, NONE);
                c.queueIs(queues - 1, what, queues == 0 ? NONE : 0);
            }
            if (queues < 5) {
                c.tell(1, "50 10 'q" + queues + "' 0");
            }
        }
        for (int q : new int[] {6, 256, -2, Integer.MIN_VALUE, Integer.MAX_VALUE}) {
            c.queueIs(q, 0, NONE);
        }
    }

    /** "NONE when .. what is not 0 .. 3" */
    private static void noSuchWhatOfAQueue() {
        Client c = Client.open("no such what of a queue", 1);
        c.tell(1, "50 10 'q' 0");
        for (int what : NO_WHAT) {
            c.queueIs(0, what, NONE);
            c.queueIs(1, what, NONE);
        }
    }

    /** "Of queue q (from 0, by declaration)": one that is deleted and declared again is the last. */
    private static void queueByDeclaration() {
        Client c = Client.open("by declaration", 1);
        for (String name : new String[] {"'c'", "'a'", "'b'"}) {
            c.tell(1, "50 10 " + name + " 0");
        }
        c.publish(1, "''", "'c'");
        c.publish(1, "''", "'b'");
        c.queueIs(0, 3, 1);
        c.queueIs(1, 3, 0);
        c.queueIs(2, 3, 2);
        c.tell(1, "50 40 'c' 0");
        c.queueIs(0, 3, 0);
        c.queueIs(1, 3, 2);
        c.queueIs(2, 3, NONE);
        c.tell(1, "50 10 'c' 0");
        c.queueIs(1, 3, 2);
        c.queueIs(2, 3, 0);
    }

    /** "An object is used for at most 512 calls": the last of them is answered like the first. */
    private static void lastCall() {
        Client c = new Client("the last call");
        for (int i = 0; i < 509; i++) {
            c.readyIs(0);
        }
        c.sendIs(0x414D_5150_0000_0901L, 8, 8);
        c.stepIs(1);
        c.readyIs(6);
    }
}
