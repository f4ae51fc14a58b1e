/** Promises 3 and 8: channels, soft mistakes, what a channel that goes leaves behind, and what channel() tells. */
public final class ChannelTest {
    public static void main(String[] args) {
        channelTellsNone();
        openingAndClosing();
        lostChannel();
        softMistakeGivesBack();
        closingGivesBack();
        numbersStayUntilOpened();
        limitAndFlowAreAsAtFirst();
        incompleteLetterIsGone();
        dueComesFirst();
        headsAndBodies();
        wrongPayloads();
        names();
        Client.end();
    }

    private static void channelTellsNone() {
        Client c = Client.open("channel() tells none", 3);
        for (int number : new int[] {0, 4, -1, Integer.MIN_VALUE, Integer.MAX_VALUE}) {
            c.channelIs(number, 0, LetterBroker.NONE);
        }
        for (int what : new int[] {-1, 4, Integer.MIN_VALUE, Integer.MAX_VALUE}) {
            c.channelIs(1, what, LetterBroker.NONE);
        }
        c.channelIs(3, 0, 1);
    }

    private static void openingAndClosing() {
        Client c = Client.open("opening and closing", 0);
        for (int channel = 1; channel <= 3; channel++) {
            c.tell(channel, "20 10");
            c.due("1/" + channel + " 20 11");
            c.channelIs(channel, 0, 1);
        }
        c.tell(2, "20 40");
        c.due("1/2 20 41");
        c.channelIs(1, 0, 1);
        c.channelIs(2, 0, 0);
        c.channelIs(3, 0, 1);
        c.tell(2, "20 40");
        c.hardIs(503);
        c.channelIs(1, 0, 0);
        c.channelIs(3, 0, 0);
    }

    private static void lostChannel() {
        Client c = Client.open("a lost channel", 2);
        c.tell(1, "50 30 'q'");
        c.softIs(1, 404);
        for (String payload : new String[] {"20 10", "20 40", "20 41 0", "20", "", "99 99", "50 10 'q' 0", "20 11"}) {
            c.tell(1, payload);
        }
        c.frame(2, 1, "20 41");
        c.frame(3, 1, "20 41");
        c.due();
        c.channelIs(1, 0, 2);
        c.channelIs(2, 0, 1);
        c.tell(1, "20 41");
        c.due();
        c.channelIs(1, 0, 0);
        c.tell(1, "20 10");
        c.due("1/1 20 11");
        c.channelIs(1, 0, 1);
        c.queueIs(0, 0, LetterBroker.NONE);
    }

    private static Client withHeldLetters(String story) {
        Client c = Client.open(story, 2);
        c.tell(1, "50 10 'q' 0");
        c.tell(1, "60 20 'q' 't' 0");
        c.publish(1, "''", "'q'");
        c.publish(1, "''", "'q'");
        c.tell(1, "90 10");
        c.tell(1, "60 80 #1 0");
        c.forget();
        c.channelIs(1, 1, 2);
        c.channelIs(1, 2, 2);
        c.channelIs(1, 3, 1);
        c.queueIs(0, 0, 0);
        c.queueIs(0, 1, 1);
        return c;
    }

    private static void allIsBack(Client c) {
        c.channelIs(1, 1, 0);
        c.channelIs(1, 2, 2);
        c.channelIs(1, 3, 0);
        c.queueIs(0, 0, 2);
        c.queueIs(0, 1, 0);
        c.queueIs(0, 3, 1);
    }

    private static void softMistakeGivesBack() {
        Client c = withHeldLetters("a soft mistake gives back");
        c.tell(1, "60 30 't'");
        c.tell(1, "60 20 'q' 't' 0");
        c.forget();
        c.tell(1, "60 20 'q' 't' 0");
        c.softIs(1, 530);
        allIsBack(c);
        c.reopen(1);
        c.tell(1, "90 20");
        c.softIs(1, 406);
        c.tell(2, "60 20 'q' 'u' 1");
        c.due("1/2 60 21 'u'", "1/2 60 60 'u' #1 1 '' 'q'", "2/2 0", "1/2 60 60 'u' #2 1 '' 'q'", "2/2 0");
    }

    private static void closingGivesBack() {
        Client c = withHeldLetters("closing gives back");
        c.tell(2, "60 20 'q' 'u' 0");
        c.tell(2, "60 10 1");
        c.forget();
        c.tell(1, "20 40");
        c.due("1/1 20 41", "1/2 60 60 'u' #1 1 '' 'q'", "2/2 0");
        c.channelIs(1, 1, 0);
        c.queueIs(0, 0, 1);
        c.queueIs(0, 3, 2);
        c.queueIs(0, 1, 1);
        Client d = withHeldLetters("a hard mistake gives back");
        d.tell(2, "1 1");
        d.hardIs(503);
        allIsBack(d);
    }

    private static void numbersStayUntilOpened() {
        Client c = withHeldLetters("N stays until a channel is opened");
        c.tell(1, "20 40");
        c.channelIs(1, 2, 2);
        c.tell(1, "20 10");
        c.channelIs(1, 2, 0);
        c.forget();
        c.tell(1, "60 70 'q' 0");
        c.due("1/1 60 71 #1 1 '' 'q' 1", "2/1 0");
        c.channelIs(1, 2, 1);
        Client d = withHeldLetters("N of a lost channel");
        d.tell(1, "60 30 't'");
        d.tell(1, "60 70 'none' 0");
        d.forget();
        d.channelIs(1, 0, 2);
        d.channelIs(1, 2, 2);
        d.tell(1, "20 41");
        d.channelIs(1, 2, 2);
    }

    private static void limitAndFlowAreAsAtFirst() {
        Client c = Client.open("limit and flow are as at first", 1);
        c.tell(1, "50 10 'q' 0");
        c.tell(1, "60 10 1");
        c.tell(1, "20 20 0");
        c.tell(1, "20 40");
        c.tell(1, "20 10");
        c.tell(1, "60 20 'q' 't' 0");
        c.forget();
        c.publish(1, "''", "'q'");
        c.publish(1, "''", "'q'");
        c.due("1/1 60 60 't' #1 0 '' 'q'", "2/1 0", "1/1 60 60 't' #2 0 '' 'q'", "2/1 0");
    }

    private static void incompleteLetterIsGone() {
        Client c = Client.open("a letter that is not complete is gone", 2);
        c.tell(1, "50 10 'q' 0");
        c.tell(1, "60 40 '' 'q' 0");
        c.head(1, 2);
        c.body(1, "1");
        c.tell(2, "10 11");
        c.forget();
        c.lineIs(5);
        c.connectIs(true);
        c.openLine();
        c.tell(1, "20 10");
        c.forget();
        c.tell(1, "60 10 0");
        c.due("1/1 60 11");
        c.queueIs(0, 0, 0);
        c.body(1, "2");
        c.hardIs(505);
    }

    private static void dueComesFirst() {
        for (String payload : new String[] {"", "60", "20 40", "99 99", "10 50", "60 10 0"}) {
            Client c = Client.open("a method where a head is due " + payload, 1);
            c.tell(1, "60 40 '' 'q' 0");
            c.tell(1, payload);
            c.hardIs(505);
            Client d = Client.open("a method where a body is due " + payload, 1);
            d.tell(1, "60 40 '' 'q' 0");
            d.head(1, 1);
            d.tell(1, payload);
            d.hardIs(505);
        }
        Client c = Client.open("a body where a head is due", 1);
        c.tell(1, "60 40 '' 'q' 0");
        c.body(1, "1");
        c.hardIs(505);
        Client d = Client.open("a head where a body is due", 1);
        d.tell(1, "60 40 '' 'q' 0");
        d.head(1, 1);
        d.head(1, 1);
        d.hardIs(505);
        Client e = Client.open("a head where none is due", 1);
        e.head(1, 1);
        e.hardIs(505);
        Client f = Client.open("a body after the last one", 1);
        f.tell(1, "60 40 '' 'q' 0");
        f.head(1, 1);
        f.body(1, "1");
        f.body(1, "1");
        f.hardIs(505);
        Client g = Client.open("other channels are not due", 2);
        g.tell(1, "60 40 '' 'q' 0");
        g.tell(2, "50 10 'q' 0");
        g.due("1/2 50 11 'q' 0 0");
        g.head(1, 0);
        g.queueIs(0, 0, 1);
    }

    private static void headsAndBodies() {
        for (String payload : new String[] {"", "7", "255", "1 1", "0 0"}) {
            Client c = Client.open("a wrong head " + payload, 1);
            c.tell(1, "60 40 '' 'q' 0");
            c.frame(2, 1, payload);
            c.hardIs(501);
        }
        for (String payload : new String[] {"", "1 2 3", "1 2 3 4 5 6 7"}) {
            Client c = Client.open("a wrong body " + payload, 1);
            c.tell(1, "60 40 '' 'q' 0");
            c.head(1, 2);
            c.body(1, payload);
            c.hardIs(501);
        }
        Client c = Client.open("bodies in parts", 1);
        c.tell(1, "50 10 'q' 0");
        c.tell(1, "60 40 '' 'q' 0");
        c.head(1, 6);
        c.body(1, "255");
        c.body(1, "0 1");
        c.queueIs(0, 0, 0);
        c.body(1, "2 206 3");
        c.queueIs(0, 0, 1);
        c.forget();
        c.tell(1, "60 70 'q' 1");
        c.due("1/1 60 71 #1 0 '' 'q' 0", "2/1 6", "3/1 255 0 1 2 206 3");
        Client d = Client.open("the second body is too long", 1);
        d.tell(1, "60 40 '' 'q' 0");
        d.head(1, 3);
        d.body(1, "1 2");
        d.body(1, "1 2");
        d.hardIs(501);
    }

    private static void wrongPayloads() {
        String[] right = {"20 20 0", "20 40", "40 10 'e' 0 0", "40 20 'e' 0", "50 10 'q' 0", "50 20 'q' 'e' 'k'",
            "50 50 'q' 'e' 'k'", "50 30 'q'", "50 40 'q' 0", "60 10 0", "60 20 'q' 't' 0", "60 30 't'", "60 40 'e' 'k' 0",
            "60 70 'q' 0", "60 80 #1 0", "60 90 #1 0", "60 110", "60 120 #1 0 0", "90 10", "90 20", "90 30"};
        for (String payload : right) {
            Client c = Client.open("too much payload " + payload, 1);
            c.tell(1, payload + " 0");
            c.hardIs(501);
            int lastSpace = payload.lastIndexOf(' ');
            if (payload.indexOf(' ') != lastSpace) {
                Client d = Client.open("too little payload " + payload, 1);
                d.tell(1, payload.substring(0, lastSpace));
                d.hardIs(501);
            }
        }
        Client c = Client.open("no such kind of exchange", 1);
        c.tell(1, "40 10 'e' 3 0");
        c.hardIs(501);
        Client d = Client.open("no such kind of exchange, and it must be there", 1);
        d.tell(1, "40 10 'e' 255 1");
        d.hardIs(501);
    }

    private static void names() {
        for (String name : new String[] {"9 97 97 97 97 97 97 97 97 97", "1 32", "1 127", "2 97 0", "2 97 255", "1 13", "4 97 97"}) {
            Client c = Client.open("a wrong name " + name, 1);
            c.tell(1, "50 10 " + name + " 0");
            c.hardIs(501);
        }
        for (String name : new String[] {"'abcdefgh'", "'!'", "'~'", "'a'", "'!~!~!~!~'"}) {
            Client c = Client.open("a name " + name, 1);
            c.tell(1, "50 10 " + name + " 0");
            c.due("1/1 50 11 " + name + " 0 0");
        }
        Client c = Client.open("names that begin alike", 1);
        c.tell(1, "50 10 'ab' 0");
        c.tell(1, "50 10 'a' 0");
        c.tell(1, "50 10 'abcdefgh' 0");
        c.tell(1, "50 10 'abcdefg' 0");
        c.publish(1, "''", "'a'");
        c.publish(1, "''", "'abcdefgh'");
        c.queueIs(0, 0, 0);
        c.queueIs(1, 0, 1);
        c.queueIs(2, 0, 1);
        c.queueIs(3, 0, 0);
    }
}
