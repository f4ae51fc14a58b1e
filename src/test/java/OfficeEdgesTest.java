/**
 * The boundary cases that the terms name for exchanges, queues, bindings and consumers, and for the order of soft
 * mistakes. Each test quotes the words that it is for.
 */
public final class OfficeEdgesTest {
    private static final int NONE = LetterBroker.NONE;
    private static final int[] YES = {1, 2, 32, 128, 255};

    public static void main(String[] args) {
        kindsOfExchanges();
        exchangeMustBeThere();
        namelessExchangeIsThere();
        namelessExchangeIsNotDeclared();
        exchangeOfAnotherKind();
        sixExchanges();
        sixExchangesAndOneOfThem();
        sixExchangesAndOtherMistakes();
        deletingNoExchange();
        deletingTheNamelessExchange();
        deletingABoundExchange();
        deletingWithBindings();
        queueMustBeThere();
        emptyQueueName();
        fiveQueues();
        fiveQueuesAndOneOfThem();
        fiveQueuesAndOtherMistakes();
        declaringTellsHowMany();
        bindingWithoutQueueOrExchange();
        bindingToTheNamelessExchange();
        bindingAgain();
        bindingsThatDifferInOnePart();
        twelveBindings();
        twelveBindingsAndOneOfThem();
        twelveBindingsAndOtherMistakes();
        unbindingWhatIsNotBound();
        unbindingOneOfTwo();
        unbindingMistakes();
        purgingAnEmptyQueue();
        purgingAFullQueue();
        purgingLeavesWhatIsHeld();
        purgingNoQueue();
        deletingNoQueue();
        deletingAnEmptyQueue();
        deletingAFullQueue();
        deletingIfUnused();
        deletingIfEmpty();
        deletingWithAnyByte();
        deletingWithBindingsAndConsumers();
        deletingLeavesWhatIsHeld();
        consumingNoQueue();
        tagsOfOneChannel();
        tagsOfTwoChannels();
        sixConsumers();
        sixConsumersAndOtherMistakes();
        cancelingNoConsumer();
        cancelingAnothersConsumer();
        Client.end();
    }

    /** Channel 1 (of 3) of a broker with the exchange e (DIRECT) and the queue q. */
    private static Client withBoth(String story) {
        Client c = Client.open(story, 3);
        c.tell(1, "40 10 'e' 0 0");
        c.tell(1, "50 10 'q' 0");
        c.forget();
        return c;
    }

    private static void softAndReopened(Client c, String method, int number) {
        c.tell(1, method);
        c.softIs(1, number);
        c.reopen(1);
    }

    private static void answeredBy(Client c, String method, String answer) {
        c.tell(1, method);
        c.due("1/1 " + answer);
    }

    // ---- 40 10, 40 20 ----

    /** "kind 0 DIRECT, 1 FANOUT, 2 TOPIC (501 for others)" */
    private static void kindsOfExchanges() {
        for (int kind = 0; kind <= 255; kind++) {
            Client c = Client.open("an exchange of kind " + kind, 1);
            c.tell(1, "40 10 'e' " + kind + " 0");
            if (kind <= 2) {
                c.due("1/1 40 11");
            } else {
                c.hardIs(501);
            }
        }
        Client.hard("501 for a kind of an exchange that is there", 501, "40 10 'e' 0 0", "40 10 'e' 3 0");
        Client.hard("501 for a kind of the nameless exchange", 501, "40 10 '' 3 0");
    }

    /** "f: it must be there (404)" */
    private static void exchangeMustBeThere() {
        for (int f : YES) {
            Client c = Client.open("an exchange must be there, " + f, 1);
            softAndReopened(c, "40 10 'e' 0 " + f, 404);
            softAndReopened(c, "40 10 'e' 0 " + f, 404);
            answeredBy(c, "40 10 'e' 0 0", "40 11");
            answeredBy(c, "40 10 'e' 0 " + f, "40 11");
        }
    }

    /** "There is always one with the empty name, direct." */
    private static void namelessExchangeIsThere() {
        Client c = Client.open("always one with the empty name", 1);
        c.tell(1, "50 10 'q' 0");
        c.publish(1, "''", "'q'");
        c.publish(1, "''", "'#'");
        c.publish(1, "''", "''");
        c.queueIs(0, 0, 1);
        c.forget();
        softAndReopened(c, "40 20 '' 0", 403);
        c.publish(1, "''", "'q'");
        c.queueIs(0, 0, 2);
    }

    /** "403 for the empty name" */
    private static void namelessExchangeIsNotDeclared() {
        for (int kind = 0; kind <= 2; kind++) {
            Client.soft("declaring the nameless exchange", 403, "40 10 '' " + kind + " 0");
            Client.soft("declaring the nameless exchange that must be there", 403, "40 10 '' " + kind + " 1");
        }
    }

    /** "406 if it is there with another kind" */
    private static void exchangeOfAnotherKind() {
        for (int kind = 0; kind <= 2; kind++) {
            for (int other = 0; other <= 2; other++) {
                for (int f = 0; f <= 1; f++) {
                    Client c = Client.open("an exchange of kind " + kind + ", then of " + other, 1);
                    answeredBy(c, "40 10 'e' " + kind + " 0", "40 11");
                    c.tell(1, "40 10 'e' " + other + " " + f);
                    if (kind == other) {
                        c.due("1/1 40 11");
                    } else {
                        c.softIs(1, 406);
                    }
                }
            }
        }
    }

    private static Client withSixExchanges(String story) {
        Client c = Client.open(story, 1);
        for (int i = 1; i <= 5; i++) {
            answeredBy(c, "40 10 'e" + i + "' 0 0", "40 11");
        }
        return c;
    }

    /** "506 if there are 6 (the nameless one too)" */
    private static void sixExchanges() {
        Client c = withSixExchanges("six exchanges");
        softAndReopened(c, "40 10 'e6' 0 0", 506);
        softAndReopened(c, "40 10 'e6' 0 0", 506);
        answeredBy(c, "40 20 'e3' 0", "40 21");
        answeredBy(c, "40 10 'e6' 0 0", "40 11");
        softAndReopened(c, "40 10 'e3' 0 0", 506);
    }

    /** "506 if there are 6": not for one that is there. */
    private static void sixExchangesAndOneOfThem() {
        Client c = withSixExchanges("six exchanges, and one of them");
        for (int i = 1; i <= 5; i++) {
            answeredBy(c, "40 10 'e" + i + "' 0 " + i % 2, "40 11");
        }
    }

    /** "tested in this order: 404 .. 403, 406, 530, 506": the last one is 506. */
    private static void sixExchangesAndOtherMistakes() {
        Client c = withSixExchanges("six exchanges, and other mistakes");
        softAndReopened(c, "40 10 'e6' 0 1", 404);
        softAndReopened(c, "40 10 '' 0 0", 403);
        softAndReopened(c, "40 10 'e1' 1 0", 406);
    }

    /** "404 if there is no such E" */
    private static void deletingNoExchange() {
        for (int f = 0; f <= 1; f++) {
            Client.soft("deleting no exchange", 404, "40 20 'e' " + f);
            Client.soft("deleting one that was deleted", 404, "40 10 'e' 0 0", "40 20 'e' " + f, "40 20 'e' " + f);
        }
    }

    /** "40 20 .. 403 for the empty name" */
    private static void deletingTheNamelessExchange() {
        for (int f : new int[] {0, 1, 255}) {
            Client.soft("deleting the nameless exchange", 403, "40 20 '' " + f);
        }
    }

    /** "406 if f and it has bindings" */
    private static void deletingABoundExchange() {
        for (int f : YES) {
            Client c = withBoth("deleting a bound exchange, " + f);
            answeredBy(c, "50 20 'q' 'e' 'k'", "50 21");
            softAndReopened(c, "40 20 'e' " + f, 406);
            c.queueIs(0, 2, 1);
            answeredBy(c, "40 10 'f' 0 0", "40 11");
            answeredBy(c, "50 20 'q' 'f' 'k'", "50 21");
            answeredBy(c, "50 50 'q' 'e' 'k'", "50 51");
            answeredBy(c, "40 20 'e' " + f, "40 21");
            c.queueIs(0, 2, 1);
        }
    }

    /** "deletes it with its bindings" */
    private static void deletingWithBindings() {
        Client c = withBoth("deleting with bindings");
        c.tell(1, "40 10 'f' 0 0");
        c.tell(1, "50 20 'q' 'e' 'a'");
        c.tell(1, "50 20 'q' 'f' 'b'");
        c.tell(1, "50 20 'q' 'e' 'c'");
        c.forget();
        answeredBy(c, "40 20 'e' 0", "40 21");
        c.queueIs(0, 2, 1);
        answeredBy(c, "40 10 'e' 0 0", "40 11");
        c.publish(1, "'e'", "'a'");
        c.queueIs(0, 0, 0);
        c.publish(1, "'f'", "'b'");
        c.queueIs(0, 0, 1);
    }

    // ---- 50 10 ----

    /** "f: it must be there (404)" */
    private static void queueMustBeThere() {
        for (int f : YES) {
            Client c = Client.open("a queue must be there, " + f, 1);
            softAndReopened(c, "50 10 'q' " + f, 404);
            c.queueIs(0, 0, NONE);
            answeredBy(c, "50 10 'q' 0", "50 11 'q' 0 0");
            answeredBy(c, "50 10 'q' " + f, "50 11 'q' 0 0");
            c.queueIs(1, 0, NONE);
        }
    }

    /** "403 for the empty name"; and 404 comes first */
    private static void emptyQueueName() {
        Client.soft("a queue with the empty name", 403, "50 10 '' 0");
        Client.soft("a queue with the empty name that must be there", 404, "50 10 '' 1");
    }

    private static Client withFiveQueues(String story) {
        Client c = Client.open(story, 1);
        for (int i = 1; i <= 5; i++) {
            answeredBy(c, "50 10 'q" + i + "' 0", "50 11 'q" + i + "' 0 0");
        }
        return c;
    }

    /** "506 if there are 5" */
    private static void fiveQueues() {
        Client c = withFiveQueues("five queues");
        c.queueIs(4, 0, 0);
        softAndReopened(c, "50 10 'q6' 0", 506);
        c.queueIs(5, 0, NONE);
        answeredBy(c, "50 40 'q2' 0", "50 41 0");
        c.queueIs(4, 0, NONE);
        answeredBy(c, "50 10 'q6' 0", "50 11 'q6' 0 0");
        softAndReopened(c, "50 10 'q2' 0", 506);
    }

    /** "506 if there are 5": not for one that is there. */
    private static void fiveQueuesAndOneOfThem() {
        Client c = withFiveQueues("five queues, and one of them");
        for (int i = 1; i <= 5; i++) {
            answeredBy(c, "50 10 'q" + i + "' " + i % 2, "50 11 'q" + i + "' 0 0");
        }
    }

    /** "tested in this order: 404 .. 403, 406, 530, 506": the last one is 506. */
    private static void fiveQueuesAndOtherMistakes() {
        Client c = withFiveQueues("five queues, and other mistakes");
        softAndReopened(c, "50 10 'q6' 1", 404);
        softAndReopened(c, "50 10 '' 1", 404);
        softAndReopened(c, "50 10 '' 0", 403);
    }

    /** "how many letters wait in it, how many consumers it has": none, and as many as there can be. */
    private static void declaringTellsHowMany() {
        Client c = withBoth("declaring tells how many");
        answeredBy(c, "50 10 'q' 0", "50 11 'q' 0 0");
        answeredBy(c, "20 20 0", "20 21 0");
        for (int i = 1; i <= 6; i++) {
            answeredBy(c, "60 20 'q' 't" + i + "' 0", "60 21 't" + i + "'");
        }
        for (int i = 1; i <= 24; i++) {
            c.publish(1, "''", "'q'");
        }
        answeredBy(c, "50 10 'q' 1", "50 11 'q' 24 6");
    }

    // ---- 50 20, 50 50 ----

    /** "404 if there is no such E or Q" */
    private static void bindingWithoutQueueOrExchange() {
        Client c = withBoth("binding what is not there");
        softAndReopened(c, "50 20 'x' 'e' 'k'", 404);
        softAndReopened(c, "50 20 'q' 'x' 'k'", 404);
        softAndReopened(c, "50 20 'x' 'x' 'k'", 404);
        softAndReopened(c, "50 20 '' 'e' 'k'", 404);
        softAndReopened(c, "50 20 'e' 'q' 'k'", 404);
        c.queueIs(0, 2, 0);
    }

    /** "403 for the empty E"; and 404 comes first */
    private static void bindingToTheNamelessExchange() {
        Client c = withBoth("binding to the nameless exchange");
        softAndReopened(c, "50 20 'q' '' 'k'", 403);
        softAndReopened(c, "50 20 'q' '' 'q'", 403);
        softAndReopened(c, "50 20 'x' '' 'k'", 404);
        c.queueIs(0, 2, 0);
    }

    /** "binds (nothing changes if that is so)" */
    private static void bindingAgain() {
        Client c = withBoth("binding again");
        for (String key : new String[] {"'k'", "''"}) {
            for (int i = 0; i < 3; i++) {
                answeredBy(c, "50 20 'q' 'e' " + key, "50 21");
                c.queueIs(0, 2, key.equals("''") ? 2 : 1);
            }
        }
        answeredBy(c, "50 50 'q' 'e' 'k'", "50 51");
        c.queueIs(0, 2, 1);
    }

    /** "binds (nothing changes if that is so)": so it is with all three parts. */
    private static void bindingsThatDifferInOnePart() {
        Client c = withBoth("bindings that differ in one part");
        c.tell(1, "40 10 'f' 0 0");
        c.tell(1, "50 10 'p' 0");
        c.tell(1, "50 20 'q' 'e' 'k'");
        c.tell(1, "50 20 'q' 'e' 'kk'");
        c.tell(1, "50 20 'q' 'f' 'k'");
        c.tell(1, "50 20 'p' 'e' 'k'");
        c.queueIs(0, 2, 3);
        c.queueIs(1, 2, 1);
    }

    /** Seven bindings of q to e, and five of p to f. */
    private static Client withTwelveBindings(String story) {
        Client c = withBoth(story);
        c.tell(1, "40 10 'f' 1 0");
        c.tell(1, "50 10 'p' 0");
        c.forget();
        for (int i = 1; i <= 12; i++) {
            answeredBy(c, "50 20 " + (i <= 7 ? "'q' 'e'" : "'p' 'f'") + " 'k" + i + "'", "50 21");
        }
        c.queueIs(0, 2, 7);
        c.queueIs(1, 2, 5);
        return c;
    }

    /** "506 if there are 12 bindings" */
    private static void twelveBindings() {
        Client c = withTwelveBindings("twelve bindings");
        softAndReopened(c, "50 20 'q' 'e' 'k13'", 506);
        softAndReopened(c, "50 20 'p' 'e' 'k1'", 506);
        c.queueIs(0, 2, 7);
        answeredBy(c, "50 50 'p' 'f' 'k12'", "50 51");
        answeredBy(c, "50 20 'q' 'e' 'k13'", "50 21");
        c.queueIs(0, 2, 8);
        softAndReopened(c, "50 20 'p' 'f' 'k12'", 506);
    }

    /** "506 if there are 12 bindings": not "if that is so" already. */
    private static void twelveBindingsAndOneOfThem() {
        Client c = withTwelveBindings("twelve bindings, and one of them");
        answeredBy(c, "50 20 'q' 'e' 'k1'", "50 21");
        answeredBy(c, "50 20 'p' 'f' 'k12'", "50 21");
        c.queueIs(0, 2, 7);
        c.queueIs(1, 2, 5);
    }

    /** "tested in this order: 404 .. 403, 406, 530, 506": the last one is 506. */
    private static void twelveBindingsAndOtherMistakes() {
        Client c = withTwelveBindings("twelve bindings, and other mistakes");
        softAndReopened(c, "50 20 'x' 'e' 'k13'", 404);
        softAndReopened(c, "50 20 'q' 'x' 'k13'", 404);
        softAndReopened(c, "50 20 'x' '' 'k13'", 404);
        softAndReopened(c, "50 20 'q' '' 'k13'", 403);
    }

    /** "unbinds, if it is bound" */
    private static void unbindingWhatIsNotBound() {
        Client c = withBoth("unbinding what is not bound");
        answeredBy(c, "50 50 'q' 'e' 'k'", "50 51");
        c.queueIs(0, 2, 0);
        answeredBy(c, "50 20 'q' 'e' 'k'", "50 21");
        answeredBy(c, "50 50 'q' 'e' 'kk'", "50 51");
        answeredBy(c, "50 50 'q' 'e' ''", "50 51");
        c.queueIs(0, 2, 1);
        answeredBy(c, "50 50 'q' 'e' 'k'", "50 51");
        answeredBy(c, "50 50 'q' 'e' 'k'", "50 51");
        c.queueIs(0, 2, 0);
    }

    /** "unbinds": one binding alone. */
    private static void unbindingOneOfTwo() {
        Client c = withBoth("unbinding one of two");
        c.tell(1, "50 10 'p' 0");
        c.tell(1, "40 10 'f' 0 0");
        for (String binding : new String[] {"'q' 'e' 'a'", "'q' 'e' 'b'", "'p' 'e' 'a'", "'q' 'f' 'a'"}) {
            c.tell(1, "50 20 " + binding);
        }
        c.tell(1, "50 50 'q' 'e' 'a'");
        c.queueIs(0, 2, 2);
        c.queueIs(1, 2, 1);
        c.publish(1, "'e'", "'a'");
        c.queueIs(0, 0, 0);
        c.queueIs(1, 0, 1);
        c.publish(1, "'e'", "'b'");
        c.publish(1, "'f'", "'a'");
        c.queueIs(0, 0, 2);
    }

    /** "50 50 Q E K: .. 403 for the empty E"; and 404 comes first */
    private static void unbindingMistakes() {
        Client c = withBoth("unbinding's mistakes");
        softAndReopened(c, "50 50 'q' '' 'q'", 403);
        softAndReopened(c, "50 50 'x' '' 'q'", 404);
        softAndReopened(c, "50 50 'x' 'e' 'k'", 404);
        softAndReopened(c, "50 50 'q' 'x' 'k'", 404);
        softAndReopened(c, "50 50 '' 'e' 'k'", 404);
    }

    // ---- 50 30, 50 40 ----

    /** "answered by 50 31 and how many": none. */
    private static void purgingAnEmptyQueue() {
        Client c = withBoth("purging an empty queue");
        answeredBy(c, "50 30 'q'", "50 31 0");
        c.queueIs(0, 0, 0);
    }

    /** "the letters that wait in it are gone; answered by 50 31 and how many": as many as there can be. */
    private static void purgingAFullQueue() {
        Client c = withBoth("purging a full queue");
        for (int i = 0; i < 24; i++) {
            c.publish(2, "''", "'q'");
        }
        answeredBy(c, "50 30 'q'", "50 31 24");
        c.queueIs(0, 0, 0);
        answeredBy(c, "50 30 'q'", "50 31 0");
        for (int i = 0; i < 24; i++) {
            c.publish(2, "''", "'q'");
        }
        c.queueIs(0, 0, 24);
        c.due();
    }

    /** "the letters that wait in it are gone": not those held, nor those of others. */
    private static void purgingLeavesWhatIsHeld() {
        Client c = withBoth("purging leaves what is held");
        c.tell(1, "50 10 'p' 0");
        c.publish(1, "''", "'q'");
        c.publish(1, "''", "'q'");
        c.publish(1, "''", "'p'");
        c.tell(2, "60 70 'q' 0");
        c.forget();
        answeredBy(c, "50 30 'q'", "50 31 1");
        c.channelIs(2, 1, 1);
        c.queueIs(1, 0, 1);
        c.tell(2, "60 110");
        c.queueIs(0, 3, 1);
    }

    /** "404 if there is no such .. Q" */
    private static void purgingNoQueue() {
        Client.soft("purging no queue", 404, "50 30 'q'");
        Client.soft("purging the empty name", 404, "50 30 ''");
        Client.soft("purging an exchange", 404, "40 10 'e' 0 0", "50 30 'e'");
    }

    /** "404 if there is no such .. Q" */
    private static void deletingNoQueue() {
        for (int b = 0; b <= 3; b++) {
            Client.soft("deleting no queue", 404, "50 40 'q' " + b);
            Client.soft("deleting the empty name", 404, "50 40 '' " + b);
            Client.soft("deleting what was deleted", 404, "50 10 'q' 0", "50 40 'q' " + b, "50 40 'q' " + b);
        }
    }

    /** "Answered by 50 41 and how many waited": none. */
    private static void deletingAnEmptyQueue() {
        for (int b = 0; b <= 3; b++) {
            Client c = withBoth("deleting an empty queue, " + b);
            answeredBy(c, "50 40 'q' " + b, "50 41 0");
            c.queueIs(0, 0, NONE);
        }
    }

    /** "Answered by 50 41 and how many waited": as many as there can be. */
    private static void deletingAFullQueue() {
        Client c = withBoth("deleting a full queue");
        for (int i = 0; i < 24; i++) {
            c.publish(1, "''", "'q'");
        }
        answeredBy(c, "50 40 'q' 1", "50 41 24");
        answeredBy(c, "50 10 'q' 0", "50 11 'q' 0 0");
        for (int i = 0; i < 24; i++) {
            c.publish(1, "''", "'q'");
        }
        c.queueIs(0, 0, 24);
        c.queueIs(0, 3, 25);
    }

    /** "406 if b is odd and it has consumers" */
    private static void deletingIfUnused() {
        for (int b : new int[] {1, 3, 5, 127, 129, 253, 255}) {
            Client c = withBoth("deleting if it has no consumers, " + b);
            c.tell(2, "60 20 'q' 't' 0");
            c.forget();
            softAndReopened(c, "50 40 'q' " + b, 406);
            c.queueIs(0, 1, 1);
            c.tell(2, "50 10 'p' 0");
            c.tell(2, "60 20 'p' 'u' 0");
            c.tell(2, "60 30 't'");
            c.forget();
            answeredBy(c, "50 40 'q' " + b, "50 41 0");
            c.queueIs(0, 1, 1);
        }
    }

    /** "406 if .. b / 2 is odd and letters wait" */
    private static void deletingIfEmpty() {
        for (int b : new int[] {2, 3, 6, 7, 126, 130, 254, 255}) {
            Client c = withBoth("deleting if no letters wait, " + b);
            c.publish(2, "''", "'q'");
            softAndReopened(c, "50 40 'q' " + b, 406);
            c.queueIs(0, 0, 1);
            c.tell(2, "50 10 'p' 0");
            c.publish(2, "''", "'p'");
            c.tell(2, "60 70 'q' 0");
            c.forget();
            answeredBy(c, "50 40 'q' " + b, "50 41 0");
            c.queueIs(0, 0, 1);
            c.channelIs(2, 1, 1);
        }
    }

    /** "406 if b is odd and .., or b / 2 is odd and ..": no other byte stops it. */
    private static void deletingWithAnyByte() {
        for (int b = 0; b <= 255; b++) {
            Client c = withBoth("deleting with the byte " + b);
            c.tell(2, "20 20 0");
            if (b % 2 == 0) {
                c.tell(2, "60 20 'q' 't' 0");
            }
            if (b / 2 % 2 == 0) {
                c.publish(2, "''", "'q'");
            }
            c.forget();
            answeredBy(c, "50 40 'q' " + b, "50 41 " + (b / 2 % 2 == 0 ? 1 : 0));
        }
    }

    /** "deletes it with bindings, consumers and letters that wait" */
    private static void deletingWithBindingsAndConsumers() {
        Client c = withBoth("deleting with bindings and consumers");
        c.tell(1, "20 20 0");
        c.tell(1, "50 20 'q' 'e' 'k'");
        c.tell(1, "60 20 'q' 't' 0");
        c.publish(1, "''", "'q'");
        c.forget();
        answeredBy(c, "50 40 'q' 0", "50 41 1");
        answeredBy(c, "40 20 'e' 1", "40 21");
        answeredBy(c, "50 10 'q' 0", "50 11 'q' 0 0");
        c.queueIs(0, 2, 0);
        answeredBy(c, "60 20 'q' 't' 0", "60 21 't'");
    }

    /** "(those held are gone when they come back)" */
    private static void deletingLeavesWhatIsHeld() {
        for (String back : new String[] {"60 110", "60 120 #1 0 1", "60 90 #1 1", "60 120 #0 1 1", "20 40"}) {
            for (int again = 0; again <= 1; again++) {
                Client c = withBoth("held letters of a deleted queue, " + back + ", declared again: " + again);
                c.publish(1, "''", "'q'");
                c.tell(2, "60 70 'q' 0");
                c.tell(1, "50 40 'q' 0");
                if (again == 1) {
                    c.tell(1, "50 10 'q' 0");
                }
                c.channelIs(2, 1, 1);
                c.tell(2, back);
                c.channelIs(2, 1, 0);
                c.queueIs(0, 0, again == 1 ? 0 : NONE);
            }
        }
    }

    // ---- 60 20, 60 30 ----

    /** "404 if there is no such .. Q" */
    private static void consumingNoQueue() {
        Client.soft("consuming no queue", 404, "60 20 'q' 't' 0");
        Client.soft("consuming the empty name", 404, "60 20 '' 't' 0");
        Client.soft("404 before 530", 404, "50 10 'q' 0", "60 20 'q' 't' 0", "60 20 'x' 't' 0");
    }

    /** "530 if the channel has a consumer T" */
    private static void tagsOfOneChannel() {
        for (String tag : new String[] {"''", "'t'", "'12345678'"}) {
            Client c = withBoth("a tag is taken, " + tag);
            c.tell(1, "50 10 'p' 0");
            c.forget();
            answeredBy(c, "60 20 'q' " + tag + " 0", "60 21 " + tag);
            softAndReopened(c, "60 20 'p' " + tag + " 1", 530);
            answeredBy(c, "60 20 'q' " + tag + " 0", "60 21 " + tag);
            answeredBy(c, "60 30 " + tag, "60 31 " + tag);
            answeredBy(c, "60 20 'p' " + tag + " 0", "60 21 " + tag);
            softAndReopened(c, "60 20 'q' " + tag + " 0", 530);
        }
    }

    /** "530 if the channel has a consumer T": another channel may. */
    private static void tagsOfTwoChannels() {
        Client c = withBoth("the tag of another channel");
        for (int channel = 1; channel <= 3; channel++) {
            c.tell(channel, "60 20 'q' 't' 0");
            c.due("1/" + channel + " 60 21 't'");
            c.queueIs(0, 1, channel);
        }
    }

    private static Client withSixConsumers(String story) {
        Client c = withBoth(story);
        c.tell(1, "50 10 'p' 0");
        c.tell(2, "60 20 'q' 'a' 0");
        c.tell(3, "60 20 'q' 'a' 1");
        c.tell(2, "60 20 'p' 'b' 0");
        c.tell(3, "60 20 'p' 'b' 0");
        c.tell(2, "60 20 'q' 'c' 0");
        c.tell(2, "60 20 'q' 'd' 0");
        c.queueIs(0, 1, 4);
        c.queueIs(1, 1, 2);
        c.forget();
        return c;
    }

    /** "506 if there are 6 (of all channels)" */
    private static void sixConsumers() {
        Client c = withSixConsumers("six consumers");
        softAndReopened(c, "60 20 'q' 't' 0", 506);
        softAndReopened(c, "60 20 'p' 'a' 1", 506);
        c.tell(3, "60 30 'b'");
        c.forget();
        answeredBy(c, "60 20 'q' 't' 0", "60 21 't'");
        c.tell(3, "60 20 'q' 'b' 0");
        c.softIs(3, 506);
    }

    /** "tested in this order: 404 .. 403, 406, 530, 506": the last one is 506. */
    private static void sixConsumersAndOtherMistakes() {
        Client c = withSixConsumers("six consumers, and no such queue");
        softAndReopened(c, "60 20 'x' 't' 0", 404);
        c.tell(2, "60 20 'q' 'a' 0");
        c.softIs(2, 530);
        Client d = withSixConsumers("six consumers, no such queue, and a tag that is taken");
        d.tell(2, "60 20 'x' 'a' 0");
        d.softIs(2, 404);
    }

    /** "that consumer goes, if there is one; answered by 60 31 T" */
    private static void cancelingNoConsumer() {
        Client c = withBoth("canceling no consumer");
        answeredBy(c, "60 30 't'", "60 31 't'");
        answeredBy(c, "60 30 ''", "60 31 ''");
        answeredBy(c, "60 20 'q' 't' 0", "60 21 't'");
        answeredBy(c, "60 30 'tt'", "60 31 'tt'");
        c.queueIs(0, 1, 1);
        answeredBy(c, "60 30 't'", "60 31 't'");
        c.queueIs(0, 1, 0);
        answeredBy(c, "60 30 't'", "60 31 't'");
    }

    /** "that consumer goes": the channel's own. */
    private static void cancelingAnothersConsumer() {
        Client c = withBoth("canceling another's consumer");
        c.tell(2, "60 20 'q' 't' 0");
        c.tell(3, "60 20 'q' 't' 0");
        c.forget();
        answeredBy(c, "60 30 't'", "60 31 't'");
        c.queueIs(0, 1, 2);
        c.tell(3, "60 30 't'");
        c.publish(1, "''", "'q'");
        c.due("1/3 60 31 't'", "1/2 60 60 't' #1 0 '' 'q'", "2/2 0");
    }
}
