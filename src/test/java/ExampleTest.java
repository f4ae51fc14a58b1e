import java.io.IOException;
import java.nio.file.Files;
import java.nio.file.Path;
import java.util.ArrayList;
import java.util.List;

/** The example of README.md: each of its lines stands in this file, and what README.md says of them holds. */
public final class ExampleTest {
    private static int wrong = 0;

    public static void main(String[] args) throws IOException {
        LetterBroker broker = new LetterBroker();
        tell(broker, 65, 77, 81, 80, 0, 0, 9, 1);                // the greeting
        tell(broker, 1, 0, 2, 10, 11, 206);                      // METHOD on channel 0, two bytes: 10 11
        tell(broker, 1, 0, 2, 10, 31, 206);
        tell(broker, 1, 0, 2, 10, 40, 206);                      // line() is 4 now: OPEN
        check("line()", broker.line(), 4);
        tell(broker, 1, 1, 2, 20, 10, 206);                      // opens channel 1
        check("channel(1, 0)", broker.channel(1, 0), 1);
        tell(broker, 1, 1, 5, 50, 10, 1, 'q', 0, 206);           // declares the queue q
        tell(broker, 1, 1, 6, 60, 40, 0, 1, 'q', 0, 206);        // publishes by the nameless exchange with the key q:
        tell(broker, 2, 1, 1, 2, 206);                           // HEAD: a letter of two bytes
        tell(broker, 3, 1, 2, 'h', 'i', 206);                    // BODY: queue(0, 0) is 1 now, a letter waits
        check("queue(0, 0)", broker.queue(0, 0), 1);
        hear(broker);                                            // the answers so far
        tell(broker, 1, 1, 5, 60, 70, 1, 'q', 0, 206);           // gets the letter, as N 1
        List<Integer> letter = hear(broker);                     // 1 1 .. 60 71 .. 206, 2 1 1 2 206, 3 1 2 'h' 'i' 206
        check("the letter", letter, bytes(1, 1, 9, 60, 71, 0, 1, 0, 0, 1, 'q', 0, 206, 2, 1, 1, 2, 206,
                3, 1, 2, 'h', 'i', 206));
        check("channel(1, 1)", broker.channel(1, 1), 1);
        tell(broker, 1, 1, 5, 60, 80, 0, 1, 0, 206);             // acknowledges N 1: channel(1, 1) is 0 now
        check("channel(1, 1)", broker.channel(1, 1), 0);

        afterASoftMistake(broker);
        afterAHardMistake(broker);
        readmeShowsThisExample();
        System.out.println(wrong == 0 ? "all as due" : wrong + " not as due");
        System.exit(wrong == 0 ? 0 : 1);
    }

    static void tell(LetterBroker broker, int... bytes) {
        for (int from = 0; from < bytes.length; from += 8) {
            int n = Math.min(8, bytes.length - from);
            long packed = 0;
            for (int i = from; i < from + n; i++) {
                packed = packed << 8 | bytes[i];
            }
            broker.send(packed, n);
        }
        broker.step();
    }

    static List<Integer> hear(LetterBroker broker) {
        List<Integer> heard = new ArrayList<>();
        while (broker.ready() > 0) {
            heard.add(broker.receive());
        }
        return heard;
    }

    private static void afterASoftMistake(LetterBroker broker) {
        tell(broker, 1, 1, 5, 60, 70, 1, 'x', 0, 206);
        check("a soft mistake", hear(broker), bytes(1, 1, 4, 20, 40, 404 >> 8, 404 & 255, 206));
        check("channel(1, 0)", broker.channel(1, 0), 2);
        tell(broker, 1, 1, 2, 20, 41, 206);
        tell(broker, 1, 1, 2, 20, 10, 206);
        check("channel(1, 0)", broker.channel(1, 0), 1);
        hear(broker);
    }

    private static void afterAHardMistake(LetterBroker broker) {
        tell(broker, 1, 1, 2, 20, 10, 206);
        check("line()", broker.line(), 5);
        check("connect()", broker.connect(), true);
        check("what waits to be received", hear(broker), bytes(1, 0, 4, 10, 50, 503 >> 8, 503 & 255, 206));
        check("line()", broker.line(), 0);
        check("queue(0, 0)", broker.queue(0, 0), 0);
    }

    private static void readmeShowsThisExample() throws IOException {
        String here = Files.readString(Path.of("src/test/java/ExampleTest.java"));
        String[] blocks = Files.readString(Path.of("README.md")).split("```java\n");
        check("README.md has an example", blocks.length > 1, true);
        for (int i = 1; i < blocks.length; i++) {
            for (String line : blocks[i].split("```")[0].split("\n")) {
                check("README.md: " + line, here.contains(line.strip()), true);
            }
        }
    }

    private static List<Integer> bytes(int... bytes) {
        List<Integer> list = new ArrayList<>();
        for (int b : bytes) {
            list.add(b);
        }
        return list;
    }

    private static void check(String what, Object got, Object due) {
        if (!got.equals(due)) {
            wrong++;
            System.out.println(what + " is " + got + ", due is " + due);
        }
    }
}
