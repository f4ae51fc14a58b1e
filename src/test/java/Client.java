import java.util.ArrayList;
import java.util.List;

/**
 * A client of one broker, for tests. What it sends and what is due to it are written as texts: a number is a byte, #312
 * a short number, 'q' a name. A frame that is due is written with its kind and its channel in front: "1/0 10 10".
 */
final class Client {
    /** What is right on the line, from when it is greeted on. */
    static final String[] LINE_METHODS = {"10 11", "10 31", "10 40", "10 50"};

    private static final int MOST_CALLS = 512;
    private static int wrong = 0;

    final LetterBroker broker = new LetterBroker();
    private final String story;
    private int calls = 0;

    Client(String story) {
        this.story = story;
    }

    /** A client whose line and channels up to the last one are open, with nothing left to receive. */
    static Client open(String story, int lastChannel) {
        Client client = new Client(story);
        client.openLine();
        for (int c = 1; c <= lastChannel; c++) {
            client.tell(c, "20 10");
        }
        client.forget();
        return client;
    }

    /** A client whose line is in this state, 0 (NEW) to 4 (OPEN), with nothing left to receive. */
    static Client inState(String story, int state) {
        Client client = new Client(story + " (line " + state + ")");
        if (state > 0) {
            client.send("65 77 81 80 0 0 9 1");
            client.stepIs(1);
        }
        for (int i = 1; i < state; i++) {
            client.tell(0, LINE_METHODS[i - 1]);
        }
        client.forget();
        client.lineIs(state);
        return client;
    }

    void openLine() {
        send("65 77 81 80 0 0 9 1");
        stepIs(1);
        tell(0, "10 11");
        tell(0, "10 31");
        tell(0, "10 40");
        is("line()", broker.line(), 4);
    }

    /** Sends a frame METHOD and has it handled. */
    void tell(int channel, String payload) {
        frame(1, channel, payload);
    }

    void head(int channel, int length) {
        frame(2, channel, "" + length);
    }

    void body(int channel, String bytes) {
        frame(3, channel, bytes);
    }

    /** Publishes a letter without bytes. */
    void publish(int channel, String exchange, String key) {
        tell(channel, "60 40 " + exchange + " " + key + " 0");
        head(channel, 0);
    }

    void frame(int kind, int channel, String payload) {
        sendAll(frameOf(kind, channel, payload));
        stepIs(1);
    }

    void send(String text) {
        sendAll(bytesOf(text));
    }

    private void sendAll(List<Integer> bytes) {
        for (int from = 0; from < bytes.size(); from += 8) {
            int n = Math.min(8, bytes.size() - from);
            long packed = 0;
            for (int i = 0; i < n; i++) {
                packed = packed << 8 | bytes.get(from + i);
            }
            count();
            if (broker.send(packed, n) == LetterBroker.NONE) {
                fail("send was refused", "-1", "a number of bytes");
            }
        }
    }

    void stepIs(int due) {
        is("step()", broker.step(), due);
    }

    void sendIs(long bytes, int n, int due) {
        is("send(" + bytes + ", " + n + ")", broker.send(bytes, n), due);
    }

    void readyIs(int due) {
        is("ready()", broker.ready(), due);
    }

    void receiveIs(int due) {
        is("receive()", broker.receive(), due);
    }

    void connectIs(boolean due) {
        is("connect()", broker.connect() ? 1 : 0, due ? 1 : 0);
    }

    void lineIs(int due) {
        is("line()", broker.line(), due);
    }

    void channelIs(int c, int what, int due) {
        is("channel(" + c + ", " + what + ")", broker.channel(c, what), due);
    }

    int latestN(int channel) {
        count();
        return broker.channel(channel, 2);
    }

    void queueIs(int q, int what, int due) {
        is("queue(" + q + ", " + what + ")", broker.queue(q, what), due);
    }

    void is(String call, int got, int due) {
        count();
        if (got != due) {
            fail(call, "" + got, "" + due);
        }
    }

    /** Receives all that waits; it must be these frames and nothing else. */
    void due(String... frames) {
        List<Integer> due = new ArrayList<>();
        for (String frame : frames) {
            int slash = frame.indexOf('/');
            int space = frame.indexOf(' ');
            due.addAll(frameOf(Integer.parseInt(frame.substring(0, slash)),
                    Integer.parseInt(frame.substring(slash + 1, space)), frame.substring(space)));
        }
        List<Integer> got = receiveAll();
        if (!got.equals(due)) {
            fail("received", got.toString(), due.toString());
        }
    }

    /** The line is shut by a hard mistake of this number, and its frame is the only one that waits. */
    void hardIs(int number) {
        due("1/0 10 50 #" + number);
        lineIs(5);
    }

    /** The channel is lost by a soft mistake of this number, and its frame is the only one that waits. */
    void softIs(int channel, int number) {
        due("1/" + channel + " 20 40 #" + number);
        channelIs(channel, 0, 2);
        lineIs(4);
    }

    /** On channel 1 of an open line, the last of these methods is a soft mistake of this number, the others are right. */
    static void soft(String story, int number, String... methods) {
        toldUpToTheLast(story, methods).softIs(1, number);
    }

    /** As soft(), but a hard mistake. */
    static void hard(String story, int number, String... methods) {
        toldUpToTheLast(story, methods).hardIs(number);
    }

    private static Client toldUpToTheLast(String story, String... methods) {
        Client client = open(story, 1);
        for (int i = 0; i < methods.length; i++) {
            client.channelIs(1, 0, 1);
            client.forget();
            client.tell(1, methods[i]);
        }
        return client;
    }

    void reopen(int channel) {
        tell(channel, "20 41");
        tell(channel, "20 10");
        due("1/" + channel + " 20 11");
    }

    void forget() {
        receiveAll();
    }

    private List<Integer> receiveAll() {
        List<Integer> got = new ArrayList<>();
        int ready = broker.ready();
        count();
        for (int i = 0; i < ready; i++) {
            got.add(broker.receive());
            count();
        }
        return got;
    }

    private static List<Integer> frameOf(int kind, int channel, String payload) {
        List<Integer> inside = bytesOf(payload);
        List<Integer> frame = new ArrayList<>(List.of(kind, channel, inside.size()));
        frame.addAll(inside);
        frame.add(206);
        return frame;
    }

    static List<Integer> bytesOf(String text) {
        List<Integer> bytes = new ArrayList<>();
        for (String word : text.trim().split(" +")) {
            if (word.startsWith("#")) {
                int number = Integer.parseInt(word.substring(1));
                bytes.add(number >> 8);
                bytes.add(number & 255);
            } else if (word.startsWith("'")) {
                bytes.add(word.length() - 2);
                word.substring(1, word.length() - 1).chars().forEach(bytes::add);
            } else if (!word.isEmpty()) {
                bytes.add(Integer.parseInt(word));
            }
        }
        return bytes;
    }

    /** What an object answers after 512 calls is free, so a test that needs more would test nothing. */
    private void count() {
        calls++;
        if (calls == MOST_CALLS + 1) {
            fail("calls", "more than " + MOST_CALLS, "at most as many");
        }
    }

    private void fail(String call, String got, String due) {
        wrong++;
        System.out.println(story + ": " + call + " answered " + got + ", due is " + due);
    }

    /** To be called last by every test. */
    static void end() {
        System.out.println(wrong == 0 ? "all as due" : wrong + " not as due");
        System.exit(wrong == 0 ? 0 : 1);
    }
}
