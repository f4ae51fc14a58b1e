/** Promise 3: where letters come to, their numbers, getting them, returned ones, and the most there may be. */
public final class LetterTest {
    public static void main(String[] args) {
        namelessExchange();
        directExchange();
        fanoutExchange();
        topics();
        eachQueueOnce();
        numbers();
        publishingToNoExchange();
        exchangeIsLookedUpWhenComplete();
        returned();
        getting();
        gettingTellsHowManyWait();
        mostLetters();
        tooManyAtOnce();
        Client.end();
    }

    private static void namelessExchange() {
        Client c = Client.open("the nameless exchange", 1);
        c.tell(1, "50 10 'q' 0");
        c.tell(1, "50 10 'q.a' 0");
        c.publish(1, "''", "'q.a'");
        c.publish(1, "''", "''");
        c.publish(1, "''", "'#'");
        c.publish(1, "''", "'*'");
        c.queueIs(0, 0, 0);
        c.queueIs(1, 0, 1);
    }

    private static void directExchange() {
        Client c = Client.open("a direct exchange", 1);
        c.tell(1, "40 10 'e' 0 0");
        c.tell(1, "40 10 'f' 0 0");
        c.tell(1, "50 10 'q' 0");
        c.tell(1, "50 10 'p' 0");
        c.tell(1, "50 20 'q' 'e' '#'");
        c.tell(1, "50 20 'p' 'e' ''");
        c.tell(1, "50 20 'p' 'f' 'a'");
        c.publish(1, "'e'", "'a'");
        c.queueIs(0, 0, 0);
        c.queueIs(1, 0, 0);
        c.publish(1, "'e'", "'#'");
        c.publish(1, "'e'", "'q'");
        c.queueIs(0, 0, 1);
        c.queueIs(1, 0, 0);
        c.publish(1, "'e'", "''");
        c.queueIs(1, 0, 1);
    }

    private static void fanoutExchange() {
        Client c = Client.open("a fanout exchange", 1);
        c.tell(1, "40 10 'e' 1 0");
        c.tell(1, "50 10 'q' 0");
        c.tell(1, "50 10 'p' 0");
        c.tell(1, "50 10 'r' 0");
        c.tell(1, "50 20 'r' 'e' 'a'");
        c.tell(1, "50 20 'q' 'e' 'b'");
        c.publish(1, "'e'", "'c'");
        c.queueIs(0, 3, 1);
        c.queueIs(1, 3, 0);
        c.queueIs(2, 3, 2);
    }

    private static void topics() {
        String[] fit = {"'' ''", "* ''", "# ''", "#.# ''", "#.* ''", "*.# ''", "a a", "a.b a.b", "*.b a.b", "a.* a.b", "a.# a",
            "a.# a.b", "a.# a.b.c", "#.c a.b.c", "#.c c", "#.b.# a.b.c", "a.#.c a.c", "a.#.c a.b.b.c", "*.* .", ". .",
            "#.a.#.a a.a", "a.*.c a..c", "a. a.", "a.* a.", "a.# a.", ".a .a", "*.a .a", "# .......", "#.#.#.# a",
            "#.* a.b.c", "*.#.* a.b", "a* a*", "a.a# a.a#", "* *", "# #", "*.# a.b.c", "#.abcdef abcdef", "abcdefgh abcdefgh",
            "#.b a.b.b", "*.*.*.* ...", "........ ........"};
        for (String pair : fit) {
            topic(pair, 1);
        }
        String[] unfit = {"'' a", "a ''", "* a.b", "*.* a", "*.* ''", "a.b a", "a a.b", "a.* a", "a.* a.b.c", "#.c a.b", "a.#.c a.b",
            "a* ab", "a# a", "a.#b a.b", "#a a", "** a", "## a", "a *", "a #", "*.#.* a", ". ''", "'' .", "a.b a.c", "#.a.#.a a",
            "a. a", "*. a", "a .a", "*.*.* ...", "#.a.b a.b.c", "a.b ab", "A a"};
        for (String pair : unfit) {
            topic(pair, 0);
        }
    }

    private static void topic(String pair, int due) {
        String[] parts = pair.replace("''", "").split(" ", -1);
        Client c = Client.open("topic " + pair, 1);
        c.tell(1, "40 10 't' 2 0");
        c.tell(1, "50 10 'q' 0");
        c.tell(1, "50 20 'q' 't' '" + parts[0] + "'");
        c.publish(1, "'t'", "'" + parts[1] + "'");
        c.queueIs(0, 0, due);
    }

    private static void eachQueueOnce() {
        Client c = Client.open("each queue once", 1);
        c.tell(1, "40 10 't' 2 0");
        c.tell(1, "40 10 'e' 1 0");
        c.tell(1, "50 10 'q' 0");
        c.tell(1, "50 20 'q' 't' '#'");
        c.tell(1, "50 20 'q' 't' 'a'");
        c.tell(1, "50 20 'q' 't' '*'");
        c.tell(1, "50 20 'q' 'e' 'a'");
        c.tell(1, "50 20 'q' 'e' 'b'");
        c.publish(1, "'t'", "'a'");
        c.queueIs(0, 0, 1);
        c.publish(1, "'e'", "'a'");
        c.queueIs(0, 0, 2);
    }

    private static void numbers() {
        Client c = Client.open("numbers", 1);
        c.tell(1, "40 10 'e' 1 0");
        c.tell(1, "50 10 'q' 0");
        c.tell(1, "50 10 'p' 0");
        c.tell(1, "50 20 'p' 'e' ''");
        c.tell(1, "50 20 'q' 'e' ''");
        c.publish(1, "''", "'none'");
        c.publish(1, "'e'", "'a'");
        c.queueIs(0, 3, 1);
        c.queueIs(1, 3, 2);
        c.publish(1, "''", "'p'");
        c.publish(1, "'e'", "'b'");
        c.tell(1, "50 30 'p'");
        c.tell(1, "60 70 'q' 1");
        c.queueIs(0, 3, 4);
        c.publish(1, "''", "'p'");
        c.queueIs(1, 3, 6);
    }

    private static void publishingToNoExchange() {
        Client c = Client.open("publishing to no exchange", 1);
        c.tell(1, "60 40 'e' 'k' 1");
        c.softIs(1, 404);
        c.head(1, 0);
        c.due();
        c.reopen(1);
        c.head(1, 0);
        c.hardIs(505);
    }

    private static void exchangeIsLookedUpWhenComplete() {
        Client c = Client.open("an exchange deleted before the letter is complete", 2);
        c.tell(1, "40 10 'e' 1 0");
        c.tell(1, "50 10 'q' 0");
        c.tell(1, "50 20 'q' 'e' ''");
        c.tell(1, "60 40 'e' 'k' 1");
        c.tell(2, "40 20 'e' 0");
        c.forget();
        c.head(1, 0);
        c.due("1/1 60 50 #312 'e' 'k'", "2/1 0");
        c.queueIs(0, 0, 0);
        c.tell(1, "40 10 'e' 0 0");
        c.tell(1, "60 40 'e' 'k' 0");
        c.tell(2, "40 20 'e' 0");
        c.tell(2, "40 10 'e' 2 0");
        c.tell(2, "50 20 'q' 'e' '*'");
        c.forget();
        c.head(1, 0);
        c.due();
        c.queueIs(0, 0, 1);
    }

    private static void returned() {
        Client c = Client.open("returned letters", 2);
        c.tell(1, "40 10 'exchange' 2 0");
        c.tell(1, "50 10 'q' 0");
        c.forget();
        c.tell(2, "60 40 'exchange' 'abc.defg' 5");
        c.head(2, 3);
        c.body(2, "9 8");
        c.due();
        c.body(2, "7");
        c.due("1/2 60 50 #312 'exchange' 'abc.defg'", "2/2 3", "3/2 9 8 7");
        c.channelIs(2, 0, 1);
        c.channelIs(2, 2, 0);
        c.tell(2, "60 40 '' 'none' 1");
        c.head(2, 0);
        c.due("1/2 60 50 #312 '' 'none'", "2/2 0");
        c.tell(2, "60 40 '' 'none' 0");
        c.head(2, 0);
        c.tell(2, "60 40 '' 'q' 1");
        c.head(2, 0);
        c.due();
        c.queueIs(0, 0, 1);
    }

    private static void getting() {
        Client c = Client.open("getting", 2);
        c.tell(1, "60 70 'q' 0");
        c.softIs(1, 404);
        c.reopen(1);
        c.tell(1, "50 10 'q' 0");
        c.forget();
        c.tell(1, "60 70 'q' 0");
        c.due("1/1 60 72");
        c.channelIs(1, 2, 0);
        c.tell(1, "60 40 '' 'q' 0");
        c.head(1, 2);
        c.body(1, "5 6");
        c.publish(1, "''", "'q'");
        c.tell(2, "60 70 'q' 0");
        c.due("1/2 60 71 #1 0 '' 'q' 1", "2/2 2", "3/2 5 6");
        c.channelIs(2, 1, 1);
        c.channelIs(2, 2, 1);
        c.channelIs(1, 2, 0);
        c.tell(2, "60 70 'q' 1");
        c.due("1/2 60 71 #2 0 '' 'q' 0", "2/2 0");
        c.channelIs(2, 1, 1);
        c.channelIs(2, 2, 2);
        c.queueIs(0, 0, 0);
        c.queueIs(0, 3, 0);
    }

    private static void gettingTellsHowManyWait() {
        Client c = Client.open("getting with limit and without flow", 1);
        c.tell(1, "60 10 1");
        c.tell(1, "20 20 0");
        c.tell(1, "50 10 'q' 0");
        for (int i = 0; i < 4; i++) {
            c.publish(1, "''", "'q'");
        }
        c.forget();
        for (int i = 1; i <= 4; i++) {
            c.tell(1, "60 70 'q' 0");
            c.due("1/1 60 71 #" + i + " 0 '' 'q' " + (4 - i), "2/1 0");
        }
        c.channelIs(1, 1, 4);
    }

    private static void mostLetters() {
        Client c = Client.open("24 letters", 2);
        c.tell(1, "50 10 'q' 0");
        c.tell(1, "60 10 10");
        c.tell(1, "60 20 'q' 't' 0");
        for (int i = 0; i < 23; i++) {
            c.publish(2, "''", "'q'");
        }
        c.publish(2, "''", "'q'");
        c.channelIs(1, 1, 10);
        c.queueIs(0, 0, 14);
        c.channelIs(2, 0, 1);
        c.forget();
        c.publish(2, "''", "'none'");
        c.due();
        c.publish(2, "''", "'q'");
        c.softIs(2, 506);
        c.queueIs(0, 0, 14);
        c.reopen(2);
        c.tell(1, "60 80 #1 0");
        c.forget();
        c.publish(2, "''", "'q'");
        c.channelIs(2, 0, 1);
        c.queueIs(0, 0, 14);
    }

    private static void tooManyAtOnce() {
        Client c = Client.open("none is put if not all can be", 1);
        c.tell(1, "40 10 'e' 1 0");
        c.tell(1, "50 10 'q' 0");
        c.tell(1, "50 10 'p' 0");
        c.tell(1, "50 20 'q' 'e' ''");
        c.tell(1, "50 20 'p' 'e' ''");
        for (int i = 0; i < 11; i++) {
            c.publish(1, "'e'", "''");
        }
        c.publish(1, "''", "'q'");
        c.forget();
        c.publish(1, "'e'", "''");
        c.softIs(1, 506);
        c.queueIs(0, 0, 12);
        c.queueIs(1, 0, 11);
        c.reopen(1);
        c.tell(1, "60 70 'q' 0");
        c.tell(1, "50 40 'q' 0");
        c.tell(1, "50 10 'q' 0");
        for (int i = 0; i < 12; i++) {
            c.publish(1, "''", "'q'");
        }
        c.queueIs(1, 0, 12);
        c.queueIs(1, 3, 24);
        c.forget();
        c.publish(1, "''", "'q'");
        c.softIs(1, 506);
    }
}
