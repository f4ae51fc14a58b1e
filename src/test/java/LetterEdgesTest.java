/**
 * The boundary cases that the terms name for publishing and getting letters, for where they come to, for topics, for the
 * 24 letters that there may be and for returned ones. Each test quotes the words that it is for.
 */
public final class LetterEdgesTest {
    private static final int[] YES = {1, 2, 32, 128, 255};

    public static void main(String[] args) {
        publishingToNoExchange();
        publishingAnswersNothing();
        letterOfNoByte();
        letterOfSixBytes();
        gettingFromNoQueue();
        gettingWhenNoneWaits();
        gettingTheLastAndTheFirstOf24();
        gettingTheLongest();
        gettingWithoutHolding();
        numbersBeginWith1();
        oneNumberForEachQueue();
        noNumberForNoQueue();
        eachQueueOnce();
        orderOfDeclaration();
        exchangeWasDeleted();
        exchangeIsAnotherOneThen();
        namelessExchange();
        directKeys();
        fanoutKeys();
        anyOneWord();
        anyNumberOfWords();
        emptyWords();
        emptyKey();
        mostWords();
        longestWord();
        onlyDotsAreBetween();
        starsAndHashesInsideWords();
        topicsOneByOne();
        upTo24();
        beyond24();
        beyond24WithHeldOnes();
        beyond24InSomeQueues();
        noneReachedAt24();
        roomAgainBelow24();
        heldOfADeletedQueueCount();
        mustReach();
        mustReachAndDoes();
        needNotReach();
        returnedWithoutBytes();
        returnedWithBytes();
        returnedAt24();
        Client.end();
    }

    private static Client withQueue(String story) {
        Client c = Client.open(story, 3);
        c.tell(1, "50 10 'q' 0");
        c.forget();
        return c;
    }

    private static void publish(Client c, int channel, String letter, String... bodies) {
        c.tell(channel, "60 40 " + letter);
        int length = 0;
        for (String body : bodies) {
            length += Client.bytesOf(body).size();
        }
        c.head(channel, length);
        for (String body : bodies) {
            c.body(channel, body);
        }
    }

    private static void publish24(Client c) {
        for (int i = 1; i <= 24; i++) {
            c.publish(2, "''", "'q'");
        }
    }

    // ---- 60 40, 60 70 ----

    /** "404 if there is no such E" */
    private static void publishingToNoExchange() {
        for (int f = 0; f <= 1; f++) {
            Client c = withQueue("publishing to no exchange");
            c.tell(1, "60 40 'e' 'q' " + f);
            c.softIs(1, 404);
            c.reopen(1);
            c.tell(1, "60 40 'q' 'q' " + f);
            c.softIs(1, 404);
            c.reopen(1);
            publish(c, 1, "'' 'q' " + f);
            c.queueIs(0, 0, 1);
        }
    }

    /** "Nothing answers." */
    private static void publishingAnswersNothing() {
        Client c = withQueue("nothing answers");
        for (int f : new int[] {0, 1}) {
            c.tell(1, "60 40 '' 'q' " + f);
            c.due();
            c.head(1, 2);
            c.due();
            c.body(1, "1");
            c.due();
            c.body(1, "1");
            c.due();
        }
        c.queueIs(0, 0, 2);
    }

    /** "a head and (if it has bytes) one body": it has none. */
    private static void letterOfNoByte() {
        Client c = withQueue("a letter of no byte");
        c.tell(1, "60 40 '' 'q' 0");
        c.queueIs(0, 0, 0);
        c.head(1, 0);
        c.queueIs(0, 0, 1);
        c.tell(2, "60 70 'q' 0");
        c.due("1/2 60 71 #1 0 '' 'q' 0", "2/2 0");
        c.tell(2, "60 90 #1 1");
        c.tell(3, "60 20 'q' 't' 0");
        c.due("1/3 60 21 't'", "1/3 60 60 't' #1 1 '' 'q'", "2/3 0");
    }

    /** "a head and (if it has bytes) one body": one, however many it came in. */
    private static void letterOfSixBytes() {
        Client c = withQueue("a letter of six bytes");
        publish(c, 1, "'' 'q' 0", "1", "2", "3", "4", "0", "255");
        c.tell(2, "60 70 'q' 0");
        c.due("1/2 60 71 #1 0 '' 'q' 0", "2/2 6", "3/2 1 2 3 4 0 255");
        c.tell(2, "60 90 #1 1");
        c.tell(3, "60 20 'q' 't' 0");
        c.due("1/3 60 21 't'", "1/3 60 60 't' #1 1 '' 'q'", "2/3 6", "3/3 1 2 3 4 0 255");
    }

    /** "404 if there is no such .. Q" */
    private static void gettingFromNoQueue() {
        for (int f = 0; f <= 1; f++) {
            Client.soft("getting from no queue", 404, "60 70 'q' " + f);
            Client.soft("getting from the empty name", 404, "60 70 '' " + f);
        }
    }

    /** "by 60 72 if none waits" */
    private static void gettingWhenNoneWaits() {
        for (int f = 0; f <= 1; f++) {
            Client c = withQueue("getting when none waits");
            c.tell(1, "60 70 'q' " + f);
            c.due("1/1 60 72");
            c.channelIs(1, 1, 0);
            c.channelIs(1, 2, 0);
            c.publish(2, "''", "'q'");
            c.tell(2, "60 70 'q' 0");
            c.due("1/2 60 71 #1 0 '' 'q' 0", "2/2 0");
            c.tell(1, "60 70 'q' " + f);
            c.due("1/1 60 72");
        }
    }

    /** "how many wait behind it": as many as can be, and none. */
    private static void gettingTheLastAndTheFirstOf24() {
        Client c = withQueue("getting the first of 24");
        publish24(c);
        c.tell(1, "60 70 'q' 0");
        c.due("1/1 60 71 #1 0 '' 'q' 23", "2/1 0");
        Client d = withQueue("getting the last");
        d.publish(2, "''", "'q'");
        d.publish(2, "''", "'q'");
        d.tell(1, "60 70 'q' 0");
        d.tell(1, "60 70 'q' 0");
        d.due("1/1 60 71 #1 0 '' 'q' 1", "2/1 0", "1/1 60 71 #2 0 '' 'q' 0", "2/1 0");
    }

    /** "60 71, its N, r, E, K, and how many wait behind it, and a head and (if it has bytes) one body": the longest. */
    private static void gettingTheLongest() {
        Client c = Client.open("getting the longest", 2);
        c.tell(1, "40 10 'exchange' 0 0");
        c.tell(1, "50 10 'longname' 0");
        c.tell(1, "50 20 'longname' 'exchange' '12345678'");
        publish(c, 1, "'exchange' '12345678' 1", "9 8 7 6 5 4");
        c.forget();
        c.tell(2, "60 70 'longname' 0");
        c.due("1/2 60 71 #1 0 'exchange' '12345678' 0", "2/2 6", "3/2 9 8 7 6 5 4");
    }

    /** "60 70 Q f: .. f: without holding it" */
    private static void gettingWithoutHolding() {
        for (int f : YES) {
            Client c = withQueue("getting without holding, " + f);
            c.publish(2, "''", "'q'");
            c.publish(2, "''", "'q'");
            c.tell(1, "60 70 'q' " + f);
            c.channelIs(1, 1, 0);
            c.channelIs(1, 2, 1);
            c.tell(1, "60 70 'q' 0");
            c.channelIs(1, 1, 1);
            c.channelIs(1, 2, 2);
            c.tell(1, "60 110");
            c.queueIs(0, 0, 1);
            c.queueIs(0, 3, 2);
        }
    }

    // ---- numbers, and where letters come to ----

    /** "LETTERS are numbered, from 1 on" */
    private static void numbersBeginWith1() {
        Client c = withQueue("from 1 on");
        publish24(c);
        c.queueIs(0, 3, 1);
        c.tell(1, "50 30 'q'");
        c.publish(2, "''", "'q'");
        c.queueIs(0, 3, 25);
    }

    /** "(one number for each queue)" */
    private static void oneNumberForEachQueue() {
        Client c = Client.open("one number for each queue", 1);
        c.tell(1, "40 10 'e' 1 0");
        for (int i = 0; i < 5; i++) {
            c.tell(1, "50 10 'q" + i + "' 0");
            c.tell(1, "50 20 'q" + i + "' 'e' ''");
        }
        c.publish(1, "'e'", "''");
        for (int i = 0; i < 5; i++) {
            c.queueIs(i, 3, 1 + i);
            c.tell(1, "60 70 'q" + i + "' 1");
        }
        c.publish(1, "'e'", "''");
        for (int i = 0; i < 5; i++) {
            c.queueIs(i, 3, 6 + i);
        }
    }

    /** "numbered .. as they are put into queues": one that is not put has none. */
    private static void noNumberForNoQueue() {
        Client c = withQueue("no number for no queue");
        publish(c, 1, "'' 'none' 0");
        publish(c, 1, "'' 'none' 1", "1");
        publish24(c);
        c.forget();
        c.publish(2, "''", "'q'");
        c.softIs(2, 506);
        c.reopen(2);
        c.tell(1, "50 30 'q'");
        c.publish(2, "''", "'q'");
        c.queueIs(0, 3, 25);
    }

    /** "(each once ..)" */
    private static void eachQueueOnce() {
        for (int kind = 0; kind <= 2; kind++) {
            Client c = withQueue("each once, kind " + kind);
            c.tell(1, "40 10 'e' " + kind + " 0");
            for (String key : new String[] {"'a'", "'*'", "'#'", "'#.a'", "'a.#'"}) {
                c.tell(1, "50 20 'q' 'e' " + key);
            }
            c.publish(1, "'e'", "'a'");
            c.queueIs(0, 0, 1);
            c.queueIs(0, 3, 1);
            c.publish(1, "'e'", "'a'");
            c.queueIs(0, 0, 2);
        }
    }

    /** "(.. in the order of their declaration)": not of the bindings. */
    private static void orderOfDeclaration() {
        Client c = Client.open("the order of declaration", 1);
        c.tell(1, "40 10 'e' 1 0");
        for (String queue : new String[] {"'c'", "'b'", "'a'"}) {
            c.tell(1, "50 10 " + queue + " 0");
        }
        for (String queue : new String[] {"'a'", "'c'", "'b'"}) {
            c.tell(1, "50 20 " + queue + " 'e' ''");
        }
        c.publish(1, "'e'", "''");
        for (int i = 0; i < 3; i++) {
            c.queueIs(i, 3, 1 + i);
        }
    }

    /** "its exchange being looked up by its name then (none, if it was deleted)" */
    private static void exchangeWasDeleted() {
        for (int f = 0; f <= 1; f++) {
            Client c = withQueue("the exchange was deleted");
            c.tell(1, "40 10 'e' 1 0");
            c.tell(1, "50 20 'q' 'e' 'k'");
            c.tell(1, "60 40 'e' 'k' " + f);
            c.head(1, 1);
            c.tell(2, "40 20 'e' 0");
            c.forget();
            c.body(1, "5");
            if (f == 0) {
                c.due();
            } else {
                c.due("1/1 60 50 #312 'e' 'k'", "2/1 1", "3/1 5");
            }
            c.queueIs(0, 0, 0);
        }
    }

    /** "its exchange being looked up by its name then": with the kind and the bindings that it has then. */
    private static void exchangeIsAnotherOneThen() {
        Client c = withQueue("the exchange is another one");
        c.tell(1, "40 10 'e' 0 0");
        c.tell(1, "60 40 'e' 'k' 0");
        c.tell(2, "40 20 'e' 0");
        c.tell(2, "40 10 'e' 2 0");
        c.tell(2, "50 20 'q' 'e' '#'");
        c.head(1, 0);
        c.queueIs(0, 0, 1);
    }

    /** "for the nameless exchange, have its key as their name" */
    private static void namelessExchange() {
        Client c = Client.open("the nameless exchange", 1);
        for (String queue : new String[] {"'a'", "'a.b'", "'#'", "'*'"}) {
            c.tell(1, "50 10 " + queue + " 0");
        }
        String[] keys = {"'a'", "'a.b'", "'#'", "'*'"};
        for (int i = 0; i < 4; i++) {
            c.publish(1, "''", keys[i]);
            for (int q = 0; q < 4; q++) {
                c.queueIs(q, 0, q <= i ? 1 : 0);
            }
        }
        c.publish(1, "''", "''");
        c.publish(1, "''", "'A'");
        c.publish(1, "''", "'aa'");
        for (int q = 0; q < 4; q++) {
            c.queueIs(q, 0, 1);
        }
    }

    /** Whether a letter with this key comes to a queue that is bound by that one. */
    private static void comes(int kind, String bound, String key, boolean due) {
        Client c = withQueue("kind " + kind + " bound by '" + bound + "', key '" + key + "'");
        c.tell(1, "40 10 'e' " + kind + " 0");
        c.tell(1, "50 20 'q' 'e' '" + bound + "'");
        c.publish(1, "'e'", "'" + key + "'");
        c.queueIs(0, 0, due ? 1 : 0);
    }

    /** "bound to the exchange by a key that is the letter's (DIRECT)" */
    private static void directKeys() {
        String[] keys = {"", "a", "b", "aa", "a.b", "#", "*", "abcdefgh", "abcdefgi", "abcdefg"};
        for (String bound : keys) {
            for (String key : keys) {
                comes(0, bound, key, bound.equals(key));
            }
        }
    }

    /** "by any (FANOUT)"; but by one */
    private static void fanoutKeys() {
        for (String bound : new String[] {"", "a", "#", "abcdefgh"}) {
            for (String key : new String[] {"", "a", "b", "*"}) {
                comes(1, bound, key, true);
            }
        }
        Client c = withQueue("FANOUT without a binding");
        c.tell(1, "40 10 'e' 1 0");
        c.publish(1, "'e'", "'q'");
        c.queueIs(0, 0, 0);
    }

    // ---- topics ----

    /** "* is any one word": not none, nor two. */
    private static void anyOneWord() {
        for (String key : new String[] {"a", "abc", "*", "#", "", "abcdefgh"}) {
            comes(2, "*", key, true);
        }
        for (String key : new String[] {"a.b", ".", "a.", ".a"}) {
            comes(2, "*", key, false);
        }
        comes(2, "a.*", "a", false);
        comes(2, "a.*", "a.b", true);
        comes(2, "a.*", "a.b.c", false);
        comes(2, "*.*", "a", false);
        comes(2, "*.b.*", "a.b.c", true);
        comes(2, "*.b.*", "b.c", false);
    }

    /** "# any number of them, also none" */
    private static void anyNumberOfWords() {
        for (String key : new String[] {"", "a", "a.b", "a.b.c.d", ".......", "........"}) {
            comes(2, "#", key, true);
            comes(2, "#.#", key, true);
        }
        for (String key : new String[] {"a", "a.b", "a.b.c", "a."}) {
            comes(2, "a.#", key, true);
        }
        comes(2, "a.#", "ab", false);
        comes(2, "a.#", "b.a", false);
        for (String key : new String[] {"a", "b.a", "b.c.a", ".a", "a.a"}) {
            comes(2, "#.a", key, true);
        }
        comes(2, "#.a", "a.b", false);
        comes(2, "a.#.b", "a.b", true);
        comes(2, "a.#.b", "a.b.b", true);
        comes(2, "a.#.b", "a.c.d.b", true);
        comes(2, "a.#.b", "a", false);
        comes(2, "#.*", "a", true);
        comes(2, "#.*.*", "a", false);
    }

    /** "(A word may be empty ..)" */
    private static void emptyWords() {
        comes(2, ".", ".", true);
        comes(2, "*.*", ".", true);
        comes(2, "a..b", "a..b", true);
        comes(2, "a.*.b", "a..b", true);
        comes(2, "a..b", "a.b", false);
        comes(2, "a..b", "a.c.b", false);
        comes(2, "a.", "a.", true);
        comes(2, "a.", "a", false);
        comes(2, ".a", "a", false);
        comes(2, "a.*", "a.", true);
        comes(2, "*.a", ".a", true);
        comes(2, "..", ".", false);
    }

    /** "an empty key is one empty word" */
    private static void emptyKey() {
        comes(2, "", "", true);
        comes(2, "*", "", true);
        comes(2, "#", "", true);
        comes(2, "*.#", "", true);
        comes(2, "#.*.#", "", true);
        comes(2, "*.*", "", false);
        comes(2, ".", "", false);
        comes(2, "", ".", false);
        comes(2, "", "a", false);
        comes(2, "a", "", false);
        comes(2, "a.#", "", false);
    }

    /** A name of 8 bytes: nine words at most. */
    private static void mostWords() {
        comes(2, "........", "........", true);
        comes(2, "........", ".......", false);
        comes(2, ".......", "........", false);
        comes(2, "#.......", "........", true);
        comes(2, "*.......", ".......", true);
        comes(2, "*.*.*.*", "a.b.c.d", true);
        comes(2, "*.*.*.*", "a.b.c", false);
        comes(2, "*.*.*.*", "....", false);
        comes(2, "#.#.#.#", "........", true);
        comes(2, "#.d", ".a.b.c.d", true);
        comes(2, "a.#", "a.b.c.d.", true);
        comes(2, ".a.b.c.d", ".a.b.c.d", true);
    }

    /** A name of 8 bytes: one word, each byte of which counts. */
    private static void longestWord() {
        comes(2, "abcdefgh", "abcdefgh", true);
        for (String key : new String[] {"cbcdefgh", "abcdefgi", "abcdEfgh", "abcdefg", "bcdefgh", "hgfedcba"}) {
            comes(2, "abcdefgh", key, false);
            comes(2, key, "abcdefgh", false);
        }
    }

    /** "words, with dots between": with nothing else between. */
    private static void onlyDotsAreBetween() {
        for (String other : new String[] {"-", "/", ",", ":", "!", "~", "n", "*", "#"}) {
            comes(2, "*", "a" + other + "b", true);
            comes(2, "*.b", "a" + other + "a.b", true);
            comes(2, "*.*", "a" + other + "b", false);
            comes(2, "a" + other + "b", "a.b", false);
            comes(2, "a.b", "a" + other + "b", false);
        }
    }

    /** "* is any one word, # any number of them": only as a word for itself. */
    private static void starsAndHashesInsideWords() {
        comes(2, "a*", "ab", false);
        comes(2, "a*", "a*", true);
        comes(2, "**", "a", false);
        comes(2, "**", "**", true);
        comes(2, "#a", "a", false);
        comes(2, "##", "a.b", false);
        comes(2, "##", "##", true);
        comes(2, "*#", "a", false);
        comes(2, "a", "*", false);
        comes(2, "a", "#", false);
        comes(2, "a.b", "#", false);
    }

    /** "a pattern that it fits (TOPIC): words, with dots between": all short patterns with all short keys. */
    private static void topicsOneByOne() {
        String[] patterns = texts("a*#.", 4);
        String[] keys = texts("ab.", 4);
        for (String pattern : patterns) {
            Client c = null;
            for (int i = 0; i < keys.length; i++) {
                if (i % 40 == 0) {
                    c = withQueue("pattern '" + pattern + "'");
                    c.tell(1, "40 10 'e' 2 0");
                    c.tell(1, "50 20 'q' 'e' '" + pattern + "'");
                }
                c.publish(1, "'e'", "'" + keys[i] + "'");
                boolean due = fits(pattern.split("\\.", -1), 0, keys[i].split("\\.", -1), 0);
                c.queueIs(0, 0, due ? 1 : 0);
                if (due) {
                    c.tell(1, "50 30 'q'");
                }
            }
        }
    }

    /** All texts of these letters with up to so many of them. */
    private static String[] texts(String letters, int most) {
        StringBuilder all = new StringBuilder(",");
        String[] latest = {""};
        for (int length = 1; length <= most; length++) {
            StringBuilder longer = new StringBuilder();
            for (String text : latest) {
                for (char letter : letters.toCharArray()) {
                    longer.append(text).append(letter).append(',');
                }
            }
            all.append(longer);
            latest = longer.toString().split(",");
        }
        return all.substring(0, all.length() - 1).split(",", -1);
    }

    private static boolean fits(String[] pattern, int p, String[] key, int k) {
        if (p == pattern.length) {
            return k == key.length;
        }
        if (pattern[p].equals("#")) {
            return fits(pattern, p + 1, key, k) || k < key.length && fits(pattern, p, key, k + 1);
        }
        return k < key.length && (pattern[p].equals("*") || pattern[p].equals(key[k])) && fits(pattern, p + 1, key, k + 1);
    }

    // ---- 24 letters ----

    /** "If these would be more than 24 letters": not yet. */
    private static void upTo24() {
        Client c = withQueue("24 letters");
        publish24(c);
        c.due();
        c.queueIs(0, 0, 24);
        c.channelIs(2, 0, 1);
    }

    /** "more than 24 letters ..: soft 506, and none is put" */
    private static void beyond24() {
        Client c = withQueue("25 letters");
        publish24(c);
        c.tell(3, "60 40 '' 'q' 1");
        c.head(3, 2);
        c.body(3, "1");
        c.due();
        c.body(3, "2");
        c.softIs(3, 506);
        c.queueIs(0, 0, 24);
        c.channelIs(2, 0, 1);
    }

    /** "together with all that wait or are held": on whatever channel. */
    private static void beyond24WithHeldOnes() {
        Client c = withQueue("24 letters, some of them held");
        publish24(c);
        for (int channel = 1; channel <= 3; channel++) {
            c.tell(channel, "60 70 'q' 0");
        }
        c.queueIs(0, 0, 21);
        c.forget();
        c.publish(2, "''", "'q'");
        c.softIs(2, 506);
        c.queueIs(0, 0, 22);
        Client d = withQueue("24 letters, all of them held");
        d.tell(1, "50 10 'p' 0");
        publish24(d);
        d.tell(1, "60 20 'q' 't' 0");
        d.channelIs(1, 1, 24);
        d.publish(2, "''", "'p'");
        d.channelIs(2, 0, 2);
        d.queueIs(1, 0, 0);
    }

    /** "none is put": in no queue, though there is room for some. */
    private static void beyond24InSomeQueues() {
        for (int before = 21; before <= 24; before++) {
            Client c = withQueue(before + " letters, and one for three queues");
            c.tell(1, "40 10 'e' 1 0");
            for (String queue : new String[] {"'a'", "'b'", "'c'"}) {
                c.tell(1, "50 10 " + queue + " 0");
                c.tell(1, "50 20 " + queue + " 'e' ''");
            }
            for (int i = 0; i < before; i++) {
                c.publish(2, "''", "'q'");
            }
            c.forget();
            c.publish(2, "'e'", "''");
            if (before == 21) {
                c.due();
            } else {
                c.softIs(2, 506);
            }
            for (int q = 1; q <= 3; q++) {
                c.queueIs(q, 0, before == 21 ? 1 : 0);
            }
        }
    }

    /** "If these would be more than 24 letters": none for no queue. */
    private static void noneReachedAt24() {
        Client c = withQueue("24 letters, and one for no queue");
        publish24(c);
        c.publish(2, "''", "'none'");
        c.due();
        c.channelIs(2, 0, 1);
    }

    /** "all that wait or are held": what was acknowledged, gotten without holding, or purged is not. */
    private static void roomAgainBelow24() {
        String[][] rooms = {{"60 70 'q' 0", "60 80 #1 0"}, {"60 70 'q' 1"}, {"60 70 'q' 0", "60 90 #1 0"}, {"50 30 'q'"}};
        for (String[] room : rooms) {
            Client c = withQueue("room again after " + String.join(", ", room));
            publish24(c);
            for (String method : room) {
                c.tell(1, method);
            }
            c.publish(2, "''", "'q'");
            c.channelIs(2, 0, 1);
            c.queueIs(0, 0, room[0].startsWith("50") ? 1 : 24);
        }
    }

    /** "all that .. are held": also of a queue that was deleted, until they come back. */
    private static void heldOfADeletedQueueCount() {
        Client c = withQueue("held ones of a deleted queue");
        c.publish(2, "''", "'q'");
        c.tell(1, "60 70 'q' 0");
        c.tell(1, "50 40 'q' 0");
        c.tell(1, "50 10 'q' 0");
        for (int i = 0; i < 23; i++) {
            c.publish(2, "''", "'q'");
        }
        c.forget();
        c.publish(2, "''", "'q'");
        c.softIs(2, 506);
        c.reopen(2);
        c.tell(1, "60 110");
        c.publish(2, "''", "'q'");
        c.channelIs(2, 0, 1);
        c.queueIs(0, 0, 24);
    }

    // ---- returned letters ----

    /** "f: it must reach a queue": any byte but 0 says so. */
    private static void mustReach() {
        for (int f : YES) {
            Client c = withQueue("it must reach a queue, " + f);
            publish(c, 2, "'' 'none' " + f);
            c.due("1/2 60 50 #312 '' 'none'", "2/2 0");
            c.channelIs(2, 0, 1);
            c.channelIs(2, 2, 0);
        }
    }

    /** "If there are none, and it must reach one": there is one. */
    private static void mustReachAndDoes() {
        Client c = withQueue("it must reach a queue, and does");
        publish(c, 2, "'' 'q' 1");
        c.due();
        c.queueIs(0, 0, 1);
    }

    /** "If there are none, and it must reach one": it need not. */
    private static void needNotReach() {
        Client c = withQueue("it need not reach a queue");
        publish(c, 2, "'' 'none' 0", "1 2 3");
        c.due();
        c.channelIs(2, 0, 1);
    }

    /** "60 50, the short number 312, E, K, and a head": names of no byte, and no byte. */
    private static void returnedWithoutBytes() {
        Client c = withQueue("returned without bytes");
        publish(c, 3, "'' '' 1");
        c.due("1/3 60 50 #312 '' ''", "2/3 0");
    }

    /** "and a head and (if it has bytes) one body": the longest. */
    private static void returnedWithBytes() {
        Client c = withQueue("returned with bytes");
        c.tell(1, "40 10 'exchange' 2 0");
        c.forget();
        publish(c, 3, "'exchange' '12345678' 1", "1 2 3", "4 5 6");
        c.due("1/3 60 50 #312 'exchange' '12345678'", "2/3 6", "3/3 1 2 3 4 5 6");
    }

    /** "If there are none": at 24 letters, too. */
    private static void returnedAt24() {
        Client c = withQueue("returned when there are 24");
        publish24(c);
        publish(c, 2, "'' 'none' 1", "9");
        c.due("1/2 60 50 #312 '' 'none'", "2/2 1", "3/2 9");
        c.channelIs(2, 0, 1);
    }
}
