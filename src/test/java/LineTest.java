/** Promises 1 to 7: the line, its bytes and frames, and what hard mistakes do. */
public final class LineTest {
    public static void main(String[] args) {
        newObject();
        sendCountsBytes();
        sendTakesTheLowestBytesHighestFirst();
        sendRefuses();
        greeting();
        wrongGreeting();
        turns();
        framesAreHandledOneByOne();
        wrongFrames();
        wrongTurns();
        wrongPayloads();
        headsAndBodiesOnNoOpenChannel();
        stepStopsWhenTooMuchWaits();
        closingTheLine();
        shutLineForgetsUnhandledBytes();
        connectKeepsWhatWaits();
        Client.end();
    }

    private static void newObject() {
        Client c = new Client("a new object");
        c.lineIs(0);
        c.readyIs(0);
        c.receiveIs(LetterBroker.NONE);
        c.stepIs(0);
        c.queueIs(0, 0, LetterBroker.NONE);
        for (int channel = 1; channel <= 3; channel++) {
            for (int what = 0; what <= 3; what++) {
                c.channelIs(channel, what, 0);
            }
        }
        c.openLine();
        c.tell(1, "20 10");
        c.forget();
        c.tell(1, "60 40 '' 'q' 0");
        c.head(1, 0);
        c.due();
        c.tell(1, "60 40 'e' 'q' 0");
        c.softIs(1, 404);
    }

    private static void sendCountsBytes() {
        Client c = new Client("send counts");
        c.sendIs(65, 1, 1);
        c.sendIs(77 << 8 | 81, 2, 3);
        c.stepIs(0);
        c.sendIs(80L << 32 | 9 << 8 | 1, 5, 8);
        c.stepIs(1);
        c.sendIs(1, 1, 1);
    }

    private static void sendTakesTheLowestBytesHighestFirst() {
        Client c = new Client("send takes the lowest bytes");
        c.sendIs(0x7777414D5150L, 4, 4);
        c.sendIs(0xFFFFFFFF00000901L, 4, 8);
        c.stepIs(1);
        c.lineIs(1);
        c.due("1/0 10 10");
        Client d = new Client("send of eight bytes, the first above 127");
        d.sendIs(0xFF00000000000000L, 8, 8);
        d.stepIs(1);
        d.hardIs(501);
    }

    private static void sendRefuses() {
        Client c = new Client("send refuses");
        for (int n : new int[] {0, -1, 9, Integer.MAX_VALUE, Integer.MIN_VALUE}) {
            c.sendIs(1, n, LetterBroker.NONE);
        }
        for (int i = 1; i <= 37; i++) {
            c.sendIs(65, 8, 8 * i);
        }
        c.sendIs(65, 5, LetterBroker.NONE);
        c.sendIs(65, 3, 299);
        c.sendIs(65, 2, LetterBroker.NONE);
        c.sendIs(65, 1, 300);
        c.sendIs(65, 1, LetterBroker.NONE);
        c.stepIs(1);
        c.lineIs(5);
        c.sendIs(65, 1, LetterBroker.NONE);
    }

    private static void greeting() {
        Client c = new Client("greeting");
        c.send("65 77 81 80 0 0 9");
        c.stepIs(0);
        c.lineIs(0);
        c.due();
        c.send("1 1");
        c.stepIs(1);
        c.lineIs(1);
        c.due("1/0 10 10");
        c.stepIs(0);
        c.sendIs(0, 1, 2);
        Client d = new Client("nothing behind the greeting");
        d.send("65 77 81 80 0 0 9 1");
        d.stepIs(1);
        d.stepIs(0);
        d.send("1 0");
        d.stepIs(0);
        d.send("2 10 11 206");
        d.stepIs(1);
        d.lineIs(2);
    }

    private static void wrongGreeting() {
        String[] wrong = {"66", "65 76", "65 77 80", "65 77 81 81", "65 77 81 80 1", "65 77 81 80 0 1",
            "65 77 81 80 0 0 8", "65 77 81 80 0 0 9 2", "1 0 2 10 11 206"};
        for (String bytes : wrong) {
            Client c = new Client("wrong greeting " + bytes);
            c.send(bytes);
            c.stepIs(1);
            c.hardIs(501);
        }
    }

    private static void turns() {
        Client c = new Client("turns of the line");
        c.send("65 77 81 80 0 0 9 1");
        c.stepIs(1);
        c.lineIs(1);
        c.due("1/0 10 10");
        c.tell(0, "10 11");
        c.lineIs(2);
        c.due("1/0 10 30");
        c.tell(0, "10 31");
        c.lineIs(3);
        c.due();
        c.tell(0, "10 40");
        c.lineIs(4);
        c.due("1/0 10 41");
        c.tell(0, "10 50");
        c.lineIs(5);
        c.due("1/0 10 51");
    }

    private static void framesAreHandledOneByOne() {
        Client c = new Client("one frame a step");
        c.openLine();
        c.forget();
        c.send("1 1 2 20 10 206 1 2 2 20 10 206 1 3 2 20");
        c.stepIs(1);
        c.channelIs(1, 0, 1);
        c.channelIs(2, 0, 0);
        c.sendIs(10, 1, 11);
        c.stepIs(1);
        c.channelIs(2, 0, 1);
        c.stepIs(0);
        c.channelIs(3, 0, 0);
        c.send("206");
        c.stepIs(1);
        c.channelIs(3, 0, 1);
        c.stepIs(0);
        c.due("1/1 20 11", "1/2 20 11", "1/3 20 11");
    }

    private static void wrongFrames() {
        for (String bytes : new String[] {"0", "4", "255", "1 4", "2 255", "1 0 41", "3 1 255", "1 0 0 205", "1 1 2 20 10 207"}) {
            Client c = new Client("wrong frame " + bytes);
            c.openLine();
            c.forget();
            c.send(bytes);
            c.stepIs(1);
            c.hardIs(501);
        }
        for (String bytes : new String[] {"1", "3 3", "1 0 40", "1 0 0", "1 0 2 10 50", "1 0 3 206 206 206"}) {
            Client c = new Client("begun frame " + bytes);
            c.openLine();
            c.forget();
            c.send(bytes);
            c.stepIs(0);
            c.due();
            c.lineIs(4);
        }
        Client c = Client.open("a wrong frame on a lost channel", 1);
        c.tell(1, "50 20 'q' '' ''");
        c.softIs(1, 404);
        c.send("1 1 0 0");
        c.stepIs(1);
        c.hardIs(501);
    }

    private static void wrongTurns() {
        String[] told = {"10 10", "10 11", "10 30", "10 31", "10 40", "10 41", "10 50", "10 51", "20 10", "50 10 'q' 0"};
        for (int state = 1; state <= 4; state++) {
            for (String method : told) {
                if (!method.equals(Client.LINE_METHODS[state - 1])) {
                    Client c = Client.inState("state " + state + " method " + method, state);
                    c.tell(0, method);
                    c.hardIs(503);
                }
            }
        }
        for (int state = 1; state <= 3; state++) {
            Client c = Client.inState("a channel's method in state " + state, state);
            c.tell(1, "20 10");
            c.hardIs(503);
        }
        for (String method : new String[] {"10 50", "20 40", "20 41", "20 11", "50 10 'q' 0", "90 10", "7 7", "60 60"}) {
            Client c = Client.inState("on a closed channel " + method, 4);
            c.tell(2, method);
            c.hardIs(503);
        }
        for (String method : new String[] {"10 50", "10 11", "20 10", "20 41", "20 11", "60 50", "60 60", "50 11", "90 40",
            "0 0", "255 255", "61 10", "60 100", "40 30", "50 60"}) {
            Client c = Client.open("on an open channel " + method, 1);
            c.tell(1, method);
            c.hardIs(503);
        }
    }

    private static void wrongPayloads() {
        for (int state = 1; state <= 4; state++) {
            String right = Client.LINE_METHODS[state - 1];
            for (int channel = 0; channel <= 1; channel++) {
                for (String payload : new String[] {"", "10"}) {
                    Client c = Client.inState("state " + state + " payload " + payload, state);
                    c.tell(channel, payload);
                    c.hardIs(501);
                }
            }
            Client c = Client.inState("state " + state + " too much payload", state);
            c.tell(0, right + " 0");
            c.hardIs(501);
        }
        Client c = Client.inState("503 before 501", 2);
        c.tell(0, "10 40 1 2 3");
        c.hardIs(503);
        Client d = Client.inState("too much to open a channel", 4);
        d.tell(1, "20 10 0");
        d.hardIs(501);
        Client e = Client.open("too much to open an open channel", 1);
        e.tell(1, "20 10 0");
        e.hardIs(503);
    }

    private static void headsAndBodiesOnNoOpenChannel() {
        for (int kind = 2; kind <= 3; kind++) {
            for (int channel = 0; channel <= 1; channel++) {
                for (int state = 1; state <= 4; state++) {
                    Client c = Client.inState("kind " + kind + " on channel " + channel + " in state " + state, state);
                    c.frame(kind, channel, "1");
                    c.hardIs(505);
                }
            }
        }
    }

    private static void stepStopsWhenTooMuchWaits() {
        Client c = Client.open("step stops at 500", 1);
        for (int i = 0; i < 83; i++) {
            c.tell(1, "60 10 0");
        }
        c.readyIs(498);
        c.tell(1, "60 10 0");
        c.readyIs(504);
        c.send("1 1 3 60 10 0 206");
        c.stepIs(LetterBroker.NONE);
        for (int i = 0; i < 4; i++) {
            c.receiveIs(new int[] {1, 1, 2, 60}[i]);
        }
        c.stepIs(LetterBroker.NONE);
        c.receiveIs(11);
        c.readyIs(499);
        c.stepIs(1);
        c.readyIs(505);
        c.stepIs(LetterBroker.NONE);
    }

    private static void closingTheLine() {
        Client c = Client.open("a closed line gives back", 2);
        c.tell(1, "50 10 'q' 0");
        c.tell(1, "60 20 'q' 't' 0");
        c.publish(2, "''", "'q'");
        c.publish(2, "''", "'q'");
        c.tell(2, "60 40 '' 'q' 0");
        c.channelIs(1, 1, 2);
        c.queueIs(0, 1, 1);
        c.forget();
        c.tell(0, "10 50");
        c.due("1/0 10 51");
        c.channelIs(1, 0, 0);
        c.channelIs(1, 1, 0);
        c.channelIs(1, 2, 2);
        c.channelIs(2, 0, 0);
        c.queueIs(0, 0, 2);
        c.queueIs(0, 1, 0);
        c.stepIs(LetterBroker.NONE);
        c.connectIs(true);
        c.channelIs(1, 2, 2);
        c.openLine();
        c.tell(1, "20 10");
        c.channelIs(1, 2, 0);
        c.forget();
        c.tell(1, "60 70 'q' 0");
        c.due("1/1 60 71 #1 1 '' 'q' 1", "2/1 0");
    }

    private static void shutLineForgetsUnhandledBytes() {
        Client c = Client.inState("a shut line forgets bytes", 4);
        c.send("1 0 2 10 50 206 9 9 9");
        c.stepIs(1);
        c.due("1/0 10 51");
        c.stepIs(LetterBroker.NONE);
        c.connectIs(true);
        c.stepIs(0);
        c.sendIs(65, 1, 1);
        Client d = Client.open("a lost channel of a shut line is closed", 1);
        d.tell(1, "60 70 'q' 0");
        d.softIs(1, 404);
        d.send("9 9 9");
        d.stepIs(1);
        d.hardIs(501);
        d.channelIs(1, 0, 0);
    }

    private static void connectKeepsWhatWaits() {
        Client c = new Client("connect");
        c.connectIs(false);
        c.openLine();
        c.connectIs(false);
        c.forget();
        c.tell(0, "10 50");
        c.connectIs(true);
        c.lineIs(0);
        c.connectIs(false);
        c.send("65 77 81 80 0 0 9 1");
        c.stepIs(1);
        c.due("1/0 10 51", "1/0 10 10");
    }
}
