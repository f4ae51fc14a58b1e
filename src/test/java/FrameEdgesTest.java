import java.util.List;

/**
 * The boundary cases that the terms name for bytes, names, frames, the line and hard mistakes. Each test quotes the
 * words that it is for.
 */
public final class FrameEdgesTest {
    /** A name stands for %; of the names beside it there are an exchange e and a queue q. */
    private static final String[] WITH_A_NAME = {"40 10 % 0 0", "40 20 % 0", "50 10 % 0", "50 20 % 'e' 'k'",
        "50 20 'q' % 'k'", "50 20 'q' 'e' %", "50 50 % 'e' 'k'", "50 50 'q' % 'k'", "50 50 'q' 'e' %", "50 30 %",
        "50 40 % 0", "60 20 % 't' 0", "60 20 'q' % 0", "60 30 %", "60 40 % 'k' 0", "60 40 'e' % 0", "60 70 % 0"};
    /** All right on a channel that withAll() made. */
    private static final String[] CHANNEL_METHODS = {"20 20 1", "20 40", "40 10 'e' 0 0", "40 20 'e' 0", "50 10 'q' 0",
        "50 20 'q' 'e' 'k'", "50 50 'q' 'e' 'k'", "50 30 'q'", "50 40 'q' 0", "60 10 0", "60 20 'q' 't' 0", "60 30 't'",
        "60 40 'e' 'k' 0", "60 70 'q' 0", "60 80 #1 0", "60 90 #1 0", "60 110", "60 120 #1 0 0", "90 10", "90 20", "90 30"};

    public static void main(String[] args) {
        bytesFrom0To255();
        shortNumbersHigherFirst();
        shortNumberOfTheGreatest();
        emptyNames();
        longestNames();
        tooLongNames();
        bytesOfNames();
        eachByteOfALongName();
        namesBeyondTheirFrame();
        kindsOfFrames();
        channelsOfFrames();
        lengthsOfFrames();
        frameOfNoByte();
        frameOfFortyBytes();
        endsOfFrames();
        endInsideAFrame();
        payloadIsLookedAtWhenItIsThere();
        greetingTooShort();
        greetingWrongAtEachByte();
        greetingTwice();
        linesTurns();
        channelsOfAnUnopenedLine();
        lineMethodsOnChannels();
        channelMethodsOnTheLine();
        unknownMethods();
        methodsOnClosedChannels();
        openingTwice();
        closingOkOnOpenChannels();
        tooLittlePayload();
        tooMuchPayload();
        linePayload();
        heads();
        headsWithoutJustOneByte();
        bodies();
        bodiesOfNoByte();
        bodiesOfTooMany();
        headOrBodyWhereNoneIsDue();
        headOrBodyAfterTheLetter();
        somethingElseWhereOneIsDue();
        dueOnItsOwnChannelAlone();
        lostComesFirst();
        dueComesBeforeTwoBytes();
        dueComesBeforeTheMethod();
        twoBytesComeBeforeTheTurn();
        turnComesBeforeTheRest();
        restComesBeforeSoftMistakes();
        hardMistakesAreToldOnChannel0();
        Client.end();
    }

    /** Channel 1 is transacted and holds letter 1 of the queue q; there is an exchange e. */
    private static Client withAll(String story) {
        Client c = Client.open(story, 1);
        c.tell(1, "40 10 'e' 0 0");
        c.tell(1, "50 10 'q' 0");
        c.publish(1, "''", "'q'");
        c.tell(1, "60 70 'q' 0");
        c.tell(1, "90 10");
        c.forget();
        return c;
    }

    /** A head is due on channel 1, of 3. */
    private static Client headDue(String story) {
        Client c = Client.open(story, 3);
        c.tell(1, "50 10 'q' 0");
        c.forget();
        c.tell(1, "60 40 '' 'q' 0");
        return c;
    }

    private static Client bodyDue(String story, int length) {
        Client c = headDue(story);
        c.head(1, length);
        return c;
    }

    private static String cut(String payload, int length) {
        List<Integer> bytes = Client.bytesOf(payload).subList(0, length);
        return bytes.toString().replaceAll("[\\[\\],]", "");
    }

    private static String first2(String payload) {
        return cut(payload, 2);
    }

    // ---- bytes, numbers, names ----

    /** "BYTES are 0 .. 255" */
    private static void bytesFrom0To255() {
        for (int from = 0; from <= 252; from += 6) {
            String bytes = "";
            for (int i = 0; i < 6; i++) {
                bytes += " " + Math.min(255, from + i);
            }
            Client c = bodyDue("the bytes" + bytes, 6);
            c.body(1, bytes);
            c.tell(1, "60 70 'q' 1");
            c.due("1/1 60 71 #1 0 '' 'q' 0", "2/1 6", "3/1" + bytes);
        }
    }

    /** "A SHORT NUMBER is two bytes, the higher first" */
    private static void shortNumbersHigherFirst() {
        Client c = withAll("a short number, 0 1");
        c.tell(1, "60 80 0 1 0");
        c.channelIs(1, 3, 1);
        for (String n : new String[] {"1 0", "1 1", "128 1", "255 1"}) {
            Client d = withAll("a short number that is not 1: " + n);
            d.tell(1, "60 80 " + n + " 0");
            d.softIs(1, 406);
        }
    }

    /** "A SHORT NUMBER": the greatest is above all others. */
    private static void shortNumberOfTheGreatest() {
        for (String n : new String[] {"255 255", "128 0", "127 255", "1 0"}) {
            Client c = withAll("all up to " + n);
            c.tell(1, "60 80 " + n + " 1");
            c.tell(1, "90 20");
            c.due("1/1 90 21");
            c.channelIs(1, 1, 0);
        }
    }

    /** "A NAME in a frame is a byte n, 0 .. 8": 0 is right, whatever the method thinks of it. */
    private static void emptyNames() {
        for (String method : WITH_A_NAME) {
            Client c = withAll("an empty name " + method);
            c.tell(1, method.replace("%", "0"));
            c.lineIs(4);
        }
        Client d = withAll("an empty tag, told again");
        d.tell(1, "60 20 'q' '' 0");
        d.tell(1, "60 30 ''");
        d.due("1/1 60 21 ''", "1/1 60 31 ''");
    }

    /** "A NAME in a frame is a byte n, 0 .. 8": 8 is right. */
    private static void longestNames() {
        for (String method : WITH_A_NAME) {
            Client c = withAll("a name of 8 bytes " + method);
            c.tell(1, method.replace("%", "'!bcdefg~'"));
            c.lineIs(4);
        }
        Client d = withAll("names of 8 bytes, told again");
        d.tell(1, "50 10 '~!abcde!' 0");
        d.tell(1, "60 20 'q' '12345678' 0");
        d.due("1/1 50 11 '~!abcde!' 0 0", "1/1 60 21 '12345678'");
    }

    /** "A NAME in a frame is a byte n, 0 .. 8": more are too many. */
    private static void tooLongNames() {
        for (String method : WITH_A_NAME) {
            Client c = withAll("a name of 9 bytes " + method);
            c.tell(1, method.replace("%", "'abcdefghi'"));
            c.hardIs(501);
        }
        for (int n : new int[] {10, 127, 128, 255}) {
            Client.hard("a name of " + n + " bytes", 501, "60 30 " + n + " 97 97 97 97 97 97 97 97 97 97");
        }
    }

    /** "n bytes 33 .. 126" */
    private static void bytesOfNames() {
        for (int b = 0; b <= 255; b++) {
            Client c = Client.open("a name with the byte " + b, 1);
            c.tell(1, "60 30 1 " + b);
            if (b >= 33 && b <= 126) {
                c.due("1/1 60 31 1 " + b);
            } else {
                c.hardIs(501);
            }
        }
    }

    /** "n bytes 33 .. 126": each of them, in every name. */
    private static void eachByteOfALongName() {
        for (int place = 1; place <= 8; place++) {
            for (int b : new int[] {32, 127}) {
                String name = "8";
                for (int i = 1; i <= 8; i++) {
                    name += " " + (i == place ? b : i % 2 == 0 ? 33 : 126);
                }
                Client.hard("a name " + name, 501, "60 30 " + name);
            }
        }
        for (String method : WITH_A_NAME) {
            Client c = withAll("a wrong byte in " + method);
            c.tell(1, method.replace("%", "2 97 32"));
            c.hardIs(501);
        }
    }

    /** "a byte n .. and n bytes": there are fewer. */
    private static void namesBeyondTheirFrame() {
        for (String name : new String[] {"1", "2 97", "8 97 97 97 97 97 97 97"}) {
            Client.hard("a name that ends too early: " + name, 501, "60 30 " + name);
        }
        Client.hard("no name at all", 501, "60 30");
    }

    // ---- frames ----

    /** Sends this beginning of a frame in every state where frames are due; it must be right, or wrong at once. */
    private static void beginningIs(String bytes, boolean right) {
        for (int state = 1; state <= 4; state++) {
            Client c = Client.inState("the beginning of a frame " + bytes, state);
            c.send(bytes);
            c.stepIs(right ? 0 : 1);
            if (right) {
                c.lineIs(state);
                c.due();
            } else {
                c.hardIs(501);
            }
        }
    }

    /** "its kind (1 METHOD, 2 HEAD, 3 BODY)"; "501, if the bytes can't be those of a frame .. (as soon as one is wrong)". */
    private static void kindsOfFrames() {
        for (int kind = 0; kind <= 255; kind++) {
            beginningIs("" + kind, kind >= 1 && kind <= 3);
        }
    }

    /** "its channel 0 .. 3" */
    private static void channelsOfFrames() {
        for (int channel = 0; channel <= 255; channel++) {
            beginningIs("1 " + channel, channel <= 3);
        }
        beginningIs("2 3", true);
        beginningIs("3 4", false);
    }

    /** "a byte n, 0 .. 40" */
    private static void lengthsOfFrames() {
        for (int n = 0; n <= 255; n++) {
            beginningIs("1 0 " + n, n <= 40);
        }
        beginningIs("3 3 40", true);
        beginningIs("2 1 41", false);
    }

    /** "a byte n, 0 .. 40": a frame with 0 is whole with its 206. */
    private static void frameOfNoByte() {
        Client c = lost("a frame of no byte");
        c.send("1 1 0");
        c.stepIs(0);
        c.sendIs(206, 1, 4);
        c.stepIs(1);
        c.due();
        c.sendIs(1, 1, 1);
    }

    /** "a byte n, 0 .. 40": a frame with 40 is handled. */
    private static void frameOfFortyBytes() {
        String bytes = "99 99" + " 7".repeat(38);
        Client c = lost("a frame of 40 bytes does nothing on a lost channel");
        c.tell(1, bytes);
        c.due();
        c.sendIs(1, 1, 1);
        Client.hard("a frame of 40 bytes with no such method", 503, bytes);
    }

    private static Client lost(String story) {
        Client c = Client.open(story, 1);
        c.tell(1, "50 10 '' 0");
        c.softIs(1, 403);
        return c;
    }

    /** "n bytes, and 206" */
    private static void endsOfFrames() {
        for (int end = 0; end <= 255; end++) {
            if (end != 206) {
                beginningIs("1 0 2 10 50 " + end, false);
            }
        }
        for (String frame : new String[] {"1 1 0 0", "2 1 1 0 205", "3 1 0 207", "1 1 2 20 41 0"}) {
            Client c = lost("a wrong end on a lost channel " + frame);
            c.send(frame);
            c.stepIs(1);
            c.hardIs(501);
        }
    }

    /** "n bytes, and 206": one among the n bytes is not the end. */
    private static void endInsideAFrame() {
        beginningIs("1 0 3 206 206 206", true);
        Client c = bodyDue("a body of 206", 3);
        c.body(1, "206 206 206");
        c.due();
        c.queueIs(0, 0, 1);
    }

    /** "if a frame's payload is not just what its method says": only a frame that is there has one. */
    private static void payloadIsLookedAtWhenItIsThere() {
        beginningIs("1 0 4 99 99 99 99", true);
        Client c = Client.open("a wrong name in a frame that is not there yet", 1);
        c.send("1 1 5 60 30 9 0 0");
        c.stepIs(0);
        c.send("206");
        c.stepIs(1);
        c.hardIs(501);
    }

    // ---- the line ----

    /** "the client sends the eight bytes": seven are not enough. */
    private static void greetingTooShort() {
        for (int n = 0; n <= 7; n++) {
            Client c = new Client(n + " bytes of the greeting");
            c.send(cut("65 77 81 80 0 0 9 1", n));
            c.stepIs(0);
            c.lineIs(0);
            c.due();
        }
    }

    /** "501, if the bytes can't be those .., on a new line, of the greeting (as soon as one is wrong)" */
    private static void greetingWrongAtEachByte() {
        String greeting = "65 77 81 80 0 0 9 1";
        for (int place = 0; place < 8; place++) {
            int right = Client.bytesOf(greeting).get(place);
            for (int wrong : new int[] {(right + 1) % 256, (right + 255) % 256, right ^ 128, 206}) {
                Client c = new Client("byte " + place + " of the greeting is " + wrong);
                c.send(cut(greeting, place));
                c.stepIs(0);
                c.send("" + wrong);
                c.stepIs(1);
                c.hardIs(501);
            }
        }
        Client d = new Client("a byte of the greeting is wrong, and more bytes follow");
        d.send("65 77 0 80 0 0 9 1 1 0 2 10 11 206");
        d.stepIs(1);
        d.hardIs(501);
    }

    /** "On a new one the client sends the eight bytes": not on others. */
    private static void greetingTwice() {
        for (int state = 1; state <= 4; state++) {
            Client c = Client.inState("the greeting again", state);
            c.send("65 77 81 80 0 0 9 1");
            c.stepIs(1);
            c.hardIs(501);
        }
    }

    /** "Then only the following is right, on channel 0" */
    private static void linesTurns() {
        String[] answers = {"1/0 10 30", "", "1/0 10 41", "1/0 10 51"};
        for (int state = 1; state <= 4; state++) {
            for (int second = 0; second <= 60; second++) {
                String method = "10 " + second;
                Client c = Client.inState("on the line " + method, state);
                c.tell(0, method);
                if (!method.equals(Client.LINE_METHODS[state - 1])) {
                    c.hardIs(503);
                } else if (answers[state - 1].isEmpty()) {
                    c.due();
                    c.lineIs(state + 1);
                } else {
                    c.due(answers[state - 1]);
                    c.lineIs(state + 1);
                }
            }
        }
    }

    /** "On an open line, a method 20 10 on a closed one": not on a line that is not open yet. */
    private static void channelsOfAnUnopenedLine() {
        for (int state = 1; state <= 3; state++) {
            for (int channel = 1; channel <= 3; channel++) {
                for (String method : new String[] {"20 10", "20 40", "20 41", "60 10 0"}) {
                    Client c = Client.inState(method + " on channel " + channel, state);
                    c.tell(channel, method);
                    c.hardIs(503);
                    c.channelIs(channel, 0, 0);
                }
            }
        }
    }

    /** "503: any method that is .. not on its channel 0" */
    private static void lineMethodsOnChannels() {
        for (int state = 1; state <= 4; state++) {
            for (int channel = 1; channel <= 3; channel++) {
                Client c = Client.inState("the line's method on channel " + channel, state);
                c.tell(channel, Client.LINE_METHODS[state - 1]);
                c.hardIs(503);
            }
        }
        for (int channel = 1; channel <= 3; channel++) {
            Client c = Client.open("10 50 on an open channel " + channel, 3);
            c.tell(channel, "10 50");
            c.hardIs(503);
        }
    }

    /** "503: any method that is .. not on its channel .. 1 .. 3" */
    private static void channelMethodsOnTheLine() {
        for (String method : CHANNEL_METHODS) {
            Client c = withAll("on channel 0 " + method);
            c.tell(0, method);
            c.hardIs(503);
        }
        for (String method : new String[] {"20 10", "20 41"}) {
            Client c = Client.inState("on channel 0 " + method, 4);
            c.tell(0, method);
            c.hardIs(503);
        }
    }

    /** "503: any method that is not one of those told here" */
    private static void unknownMethods() {
        String known = " ";
        for (String method : CHANNEL_METHODS) {
            known += first2(method) + ", ";
        }
        for (int first : new int[] {0, 10, 20, 30, 40, 50, 60, 85, 90, 255}) {
            for (int second = 0; second <= 255; second++) {
                String method = first + " " + second;
                if (!known.contains(" " + method + ",")) {
                    Client.hard("no such method " + method, 503, method);
                }
            }
        }
    }

    /** "503: any method that is .. not in its turn (methods below on closed channels among them)" */
    private static void methodsOnClosedChannels() {
        for (String method : CHANNEL_METHODS) {
            Client c = withAll("on a closed channel " + method);
            c.tell(2, method);
            c.hardIs(503);
        }
        for (int channel = 1; channel <= 3; channel++) {
            Client c = Client.inState("20 41 on a closed channel " + channel, 4);
            c.tell(channel, "20 41");
            c.hardIs(503);
        }
    }

    /** "a method 20 10 on a closed one": not on an open one. */
    private static void openingTwice() {
        for (int channel = 1; channel <= 3; channel++) {
            Client c = Client.open("opening an open channel " + channel, 3);
            c.tell(channel, "20 10");
            c.hardIs(503);
        }
    }

    /** "On a lost one .. 20 41": not on an open one. */
    private static void closingOkOnOpenChannels() {
        for (int channel = 1; channel <= 3; channel++) {
            Client c = Client.open("20 41 on an open channel " + channel, 3);
            c.tell(channel, "20 41");
            c.hardIs(503);
        }
    }

    // ---- payloads ----

    /** "501 .. if a frame's payload is not just what its method says": too little, at each of its bytes. */
    private static void tooLittlePayload() {
        for (String method : CHANNEL_METHODS) {
            int size = Client.bytesOf(method).size();
            for (int n = 0; n < size; n++) {
                Client c = withAll(n + " bytes of " + method);
                c.tell(1, cut(method, n));
                c.hardIs(501);
            }
            Client c = withAll("all bytes of " + method);
            c.tell(1, method);
            c.lineIs(4);
            c.channelIs(1, 0, method.equals("20 40") ? 0 : 1);
        }
    }

    /** "501 .. if a frame's payload is not just what its method says": too much. */
    private static void tooMuchPayload() {
        for (String method : CHANNEL_METHODS) {
            for (String more : new String[] {" 0", " 1 97"}) {
                Client c = withAll("more than " + method);
                c.tell(1, method + more);
                c.hardIs(501);
            }
        }
    }

    /** "501 .. if a frame's payload is not just what its method says": the line's methods, and 20 10, have nothing more. */
    private static void linePayload() {
        for (int state = 1; state <= 4; state++) {
            for (String payload : new String[] {"", "10", Client.LINE_METHODS[state - 1] + " 0"}) {
                Client c = Client.inState("payload " + payload, state);
                c.tell(0, payload);
                c.hardIs(501);
            }
        }
        for (String payload : new String[] {"", "20", "20 10 0"}) {
            Client c = Client.inState("on a closed channel, payload " + payload, 4);
            c.tell(3, payload);
            c.hardIs(501);
        }
    }

    /** "a head that is not one byte 0 .. 6" */
    private static void heads() {
        for (int length = 0; length <= 255; length++) {
            Client c = headDue("a head with " + length);
            c.head(1, length);
            if (length > 6) {
                c.hardIs(501);
            } else {
                c.due();
                c.queueIs(0, 0, length == 0 ? 1 : 0);
            }
        }
    }

    /** "a head that is not one byte" */
    private static void headsWithoutJustOneByte() {
        for (String payload : new String[] {"", "0 0", "1 1", "0 6", "1 1 1"}) {
            Client c = headDue("a head with the bytes " + payload);
            c.frame(2, 1, payload);
            c.hardIs(501);
        }
    }

    /** "bodies with its bytes, as many in all": as few and as many at once as there can be. */
    private static void bodies() {
        for (int length = 1; length <= 6; length++) {
            for (int part = 1; part <= length; part++) {
                Client c = bodyDue("bodies of " + part + " for " + length, length);
                for (int from = 0; from < length; from += part) {
                    c.queueIs(0, 0, 0);
                    c.body(1, cut("1 2 3 4 5 6", length).substring(2 * from, 2 * Math.min(length, from + part) - 1));
                }
                c.queueIs(0, 0, 1);
                c.tell(1, "60 70 'q' 1");
                c.due("1/1 60 71 #1 0 '' 'q' 0", "2/1 " + length, "3/1 " + cut("1 2 3 4 5 6", length));
            }
        }
    }

    /** "a body that has no byte" */
    private static void bodiesOfNoByte() {
        Client c = bodyDue("a first body of no byte", 1);
        c.body(1, "");
        c.hardIs(501);
        Client d = bodyDue("a second body of no byte", 2);
        d.body(1, "1");
        d.body(1, "");
        d.hardIs(501);
    }

    /** "or more than the letter lacks" */
    private static void bodiesOfTooMany() {
        for (int length = 1; length <= 6; length++) {
            Client c = bodyDue("a body of one too many for " + length, length);
            c.body(1, cut("1 2 3 4 5 6 7", length + 1));
            c.hardIs(501);
        }
        Client d = bodyDue("a second body of one too many", 3);
        d.body(1, "1 2");
        d.body(1, "3 4");
        d.hardIs(501);
        Client e = bodyDue("a body of 40", 6);
        e.body(1, cut("0" + " 0".repeat(39), 40));
        e.hardIs(501);
    }

    // ---- what is due ----

    /** "505: a head or body where none is due" */
    private static void headOrBodyWhereNoneIsDue() {
        for (int kind = 2; kind <= 3; kind++) {
            for (String payload : new String[] {"", "1", "60 10 0"}) {
                for (int state = 1; state <= 4; state++) {
                    for (int channel = 0; channel <= 3; channel++) {
                        Client c = Client.inState("kind " + kind + " on channel " + channel, state);
                        c.frame(kind, channel, payload);
                        c.hardIs(505);
                    }
                }
                Client c = Client.open("kind " + kind + " on an open channel", 1);
                c.frame(kind, 1, payload);
                c.hardIs(505);
            }
        }
    }

    /** "505: a head or body where none is due": nor when the letter is complete. */
    private static void headOrBodyAfterTheLetter() {
        for (int kind = 2; kind <= 3; kind++) {
            for (int length = 0; length <= 1; length++) {
                Client c = bodyDue("kind " + kind + " after a letter of " + length, length);
                if (length == 1) {
                    c.body(1, "7");
                }
                c.frame(kind, 1, "1");
                c.hardIs(505);
            }
        }
    }

    /** "505: .. anything else where one is due (on an open channel)" */
    private static void somethingElseWhereOneIsDue() {
        for (String method : new String[] {"60 40 '' 'q' 0", "20 40", "60 10 0"}) {
            Client c = headDue("a method where a head is due " + method);
            c.tell(1, method);
            c.hardIs(505);
            Client d = bodyDue("a method where a body is due " + method, 2);
            d.tell(1, method);
            d.hardIs(505);
            Client e = bodyDue("a method where a second body is due " + method, 2);
            e.body(1, "1");
            e.tell(1, method);
            e.hardIs(505);
        }
        Client c = headDue("a body where a head is due");
        c.body(1, "1");
        c.hardIs(505);
        Client d = bodyDue("a head where a body is due", 2);
        d.head(1, 2);
        d.hardIs(505);
    }

    /** "anything else where one is due": not on the other channels, nor on channel 0. */
    private static void dueOnItsOwnChannelAlone() {
        Client c = headDue("other channels than the one where a head is due");
        c.tell(2, "60 10 0");
        c.due("1/2 60 11");
        c.head(2, 0);
        c.hardIs(505);
        Client d = headDue("two letters at once");
        d.tell(2, "60 40 '' 'q' 0");
        d.head(2, 1);
        d.head(1, 2);
        d.body(2, "9");
        d.body(1, "7 8");
        d.queueIs(0, 0, 2);
        d.tell(3, "60 70 'q' 1");
        d.due("1/3 60 71 #1 0 '' 'q' 1", "2/3 1", "3/3 9");
        Client e = headDue("the line is closed where a head is due on a channel");
        e.tell(0, "10 50");
        e.due("1/0 10 51");
        e.lineIs(5);
    }

    // ---- the order ----

    /** "What a frame is looked at for, in this order: a lost channel" */
    private static void lostComesFirst() {
        for (int kind = 1; kind <= 3; kind++) {
            for (String payload : new String[] {"", "20", "99 99", "10 50", "20 10", "20 40", "20 41 0", "60 10"}) {
                Client c = lost("on a lost channel kind " + kind + " with " + payload);
                c.frame(kind, 1, payload);
                c.due();
                c.channelIs(1, 0, 2);
            }
        }
    }

    /** "what is due on an open one (505); a method's two bytes" */
    private static void dueComesBeforeTwoBytes() {
        for (String payload : new String[] {"", "60"}) {
            Client c = headDue("505 before 501, a head, " + payload);
            c.tell(1, payload);
            c.hardIs(505);
            Client d = bodyDue("505 before 501, a body, " + payload, 1);
            d.tell(1, payload);
            d.hardIs(505);
        }
    }

    /** "what is due on an open one (505); .. whether there is such a method, its channel, its turn (503); the rest" */
    private static void dueComesBeforeTheMethod() {
        for (String payload : new String[] {"99 99", "10 50", "20 10", "20 41", "60 10", "60 10 0 0", "50 10 '' 0"}) {
            Client c = headDue("505 before others, a head, " + payload);
            c.tell(1, payload);
            c.hardIs(505);
            Client d = bodyDue("505 before others, a body, " + payload, 1);
            d.tell(1, payload);
            d.hardIs(505);
        }
        Client e = headDue("505 before 501, a body that can't be one");
        e.body(1, "");
        e.hardIs(505);
        Client f = bodyDue("505 before 501, a head that can't be one", 1);
        f.head(1, 7);
        f.hardIs(505);
    }

    /** "a method's two bytes (501 if there are fewer), whether there is such a method, its channel, its turn (503)" */
    private static void twoBytesComeBeforeTheTurn() {
        for (String payload : new String[] {"", "10", "20", "99"}) {
            for (int state = 1; state <= 4; state++) {
                for (int channel = 0; channel <= 3; channel++) {
                    Client c = Client.inState("501 before 503 on channel " + channel + ", " + payload, state);
                    c.tell(channel, payload);
                    c.hardIs(501);
                }
            }
            Client.hard("501 before 503 on an open channel, " + payload, 501, payload);
        }
    }

    /** "its turn (503); the rest of its payload (501)" */
    private static void turnComesBeforeTheRest() {
        for (int state = 1; state <= 4; state++) {
            Client c = Client.inState("503 before 501, not in its turn", state);
            c.tell(0, Client.LINE_METHODS[state % 4] + " 0");
            c.hardIs(503);
            Client d = Client.inState("503 before 501, not on channel 0", state);
            d.tell(1, Client.LINE_METHODS[state - 1] + " 0");
            d.hardIs(503);
        }
        Client.hard("503 before 501, no such method", 503, "60 73 0 0 0");
        Client.hard("503 before 501, an open channel is opened", 503, "20 10 0");
        Client.hard("503 before 501, 20 41", 503, "20 41 0");
        for (String payload : new String[] {"20 40 0", "60 10", "50 10", "40 10 'e' 3 0"}) {
            Client c = Client.inState("503 before 501, on a closed channel " + payload, 4);
            c.tell(1, payload);
            c.hardIs(503);
            Client d = Client.inState("503 before 501, on channel 0 " + payload, 4);
            d.tell(0, payload);
            d.hardIs(503);
        }
    }

    /** "the rest of its payload (501)": before what is soft. */
    private static void restComesBeforeSoftMistakes() {
        for (String payload : new String[] {"40 10 '' 0", "40 10 '' 3 0", "40 10 'x' 3 1", "40 20 '' 0 0", "50 10 '' 0 0",
            "50 10 'x'", "50 20 'x' 'x'", "50 50 'x' '' '' 0", "50 30 'x' 0", "50 40 'x'", "60 20 'x' 't'", "60 40 'x' 'k'",
            "60 70 'x'", "60 80 #9", "60 90 #9", "60 120 #9 0", "90 20 0", "90 30 0"}) {
            Client.hard("501 before soft mistakes " + payload, 501, payload);
        }
    }

    /** "A HARD one of a number: the broker sends 10 50 and the short number, and the line is shut." */
    private static void hardMistakesAreToldOnChannel0() {
        for (int channel = 1; channel <= 3; channel++) {
            Client c = Client.open("501 on channel " + channel, 3);
            c.tell(channel, "60 10");
            c.hardIs(501);
            Client d = Client.open("503 on channel " + channel, 3);
            d.tell(channel, "60 60");
            d.hardIs(503);
            Client e = Client.open("505 on channel " + channel, 3);
            e.head(channel, 0);
            e.hardIs(505);
        }
    }
}
