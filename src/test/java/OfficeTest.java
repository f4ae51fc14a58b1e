/** Promises 3 and 9: exchanges, queues and bindings, their soft mistakes, and what queue() tells. */
public final class OfficeTest {
    public static void main(String[] args) {
        queueTellsNone();
        declaringExchanges();
        exchangeMistakes();
        sixExchanges();
        deletingExchanges();
        declaringQueues();
        fiveQueues();
        binding();
        bindingMistakes();
        twelveBindings();
        unbinding();
        purging();
        deletingQueues();
        deletingQueuesOnConditions();
        heldLettersOfADeletedQueue();
        queuesByDeclaration();
        Client.end();
    }

    private static void queueTellsNone() {
        Client c = Client.open("queue() tells none", 1);
        c.tell(1, "50 10 'q' 0");
        c.tell(1, "50 10 'p' 0");
        for (int q : new int[] {-1, 2, Integer.MIN_VALUE, Integer.MAX_VALUE}) {
            c.queueIs(q, 0, LetterBroker.NONE);
        }
        for (int what : new int[] {-1, 4, Integer.MIN_VALUE, Integer.MAX_VALUE}) {
            c.queueIs(0, what, LetterBroker.NONE);
        }
        for (int what = 0; what <= 3; what++) {
            c.queueIs(1, what, 0);
        }
    }

    private static void declaringExchanges() {
        Client c = Client.open("declaring exchanges", 1);
        for (int kind = 0; kind <= 2; kind++) {
            c.tell(1, "40 10 'e" + kind + "' " + kind + " 0");
            c.tell(1, "40 10 'e" + kind + "' " + kind + " 0");
            c.tell(1, "40 10 'e" + kind + "' " + kind + " 9");
            c.due("1/1 40 11", "1/1 40 11", "1/1 40 11");
        }
    }

    private static void exchangeMistakes() {
        Client.soft("an exchange that must be there", 404, "40 10 'e' 0 1");
        Client.soft("an exchange that must be there, another byte", 404, "40 10 'e' 0 200");
        Client.soft("the nameless exchange", 403, "40 10 '' 0 0");
        Client.soft("the nameless exchange that must be there", 403, "40 10 '' 0 1");
        Client.soft("the nameless exchange of another kind", 403, "40 10 '' 2 0");
        Client.soft("another kind", 406, "40 10 'e' 0 0", "40 10 'e' 1 0");
        Client.soft("another kind, and it must be there", 406, "40 10 'e' 2 0", "40 10 'e' 0 1");
    }

    private static void sixExchanges() {
        Client c = Client.open("six exchanges", 1);
        for (int i = 1; i <= 5; i++) {
            c.tell(1, "40 10 'e" + i + "' 0 0");
            c.due("1/1 40 11");
        }
        c.tell(1, "40 10 'e5' 0 0");
        c.due("1/1 40 11");
        c.tell(1, "40 10 'e6' 0 1");
        c.softIs(1, 404);
        c.reopen(1);
        c.tell(1, "40 10 'e6' 0 0");
        c.softIs(1, 506);
        c.reopen(1);
        c.tell(1, "40 20 'e1' 0");
        c.tell(1, "40 10 'e6' 0 0");
        c.due("1/1 40 21", "1/1 40 11");
    }

    private static void deletingExchanges() {
        Client.soft("no exchange to delete", 404, "40 20 'e' 0");
        Client.soft("deleting the nameless one", 403, "40 20 '' 0");
        Client.soft("deleting the nameless one if it is not bound", 403, "40 20 '' 1");
        Client.soft("deleting a bound one", 406, "40 10 'e' 0 0", "50 10 'q' 0", "50 20 'q' 'e' 'k'", "40 20 'e' 1");
        Client c = Client.open("deleting exchanges", 1);
        c.tell(1, "40 10 'e' 0 0");
        c.tell(1, "40 10 'f' 0 0");
        c.tell(1, "50 10 'q' 0");
        c.tell(1, "50 20 'q' 'e' 'k'");
        c.tell(1, "50 20 'q' 'f' 'k'");
        c.queueIs(0, 2, 2);
        c.forget();
        c.tell(1, "40 20 'e' 0");
        c.due("1/1 40 21");
        c.queueIs(0, 2, 1);
        c.tell(1, "40 10 'e' 1 0");
        c.publish(1, "'e'", "'k'");
        c.queueIs(0, 0, 0);
        c.tell(1, "40 20 'e' 1");
        c.due("1/1 40 11", "1/1 40 21");
        c.tell(1, "50 20 'q' 'e' 'k'");
        c.softIs(1, 404);
    }

    private static void declaringQueues() {
        Client.soft("a queue that must be there", 404, "50 10 'q' 1");
        Client.soft("the nameless queue", 403, "50 10 '' 0");
        Client.soft("the nameless queue that must be there", 404, "50 10 '' 1");
        Client c = Client.open("declaring queues", 2);
        c.tell(1, "50 10 'q' 0");
        c.due("1/1 50 11 'q' 0 0");
        c.publish(1, "''", "'q'");
        c.publish(1, "''", "'q'");
        c.publish(1, "''", "'q'");
        c.tell(2, "20 20 0");
        c.tell(2, "60 20 'q' 't' 0");
        c.tell(2, "60 20 'q' 'u' 0");
        c.forget();
        c.tell(1, "50 10 'q' 1");
        c.due("1/1 50 11 'q' 3 2");
        c.tell(2, "50 10 'q' 0");
        c.due("1/2 50 11 'q' 3 2");
        c.queueIs(0, 0, 3);
        c.queueIs(0, 1, 2);
        c.queueIs(0, 3, 1);
    }

    private static void fiveQueues() {
        Client c = Client.open("five queues", 1);
        for (int i = 1; i <= 5; i++) {
            c.tell(1, "50 10 'q" + i + "' 0");
            c.due("1/1 50 11 'q" + i + "' 0 0");
        }
        c.tell(1, "50 10 'q1' 0");
        c.due("1/1 50 11 'q1' 0 0");
        c.queueIs(4, 0, 0);
        c.tell(1, "50 10 'q6' 0");
        c.softIs(1, 506);
        c.reopen(1);
        c.tell(1, "50 10 '' 0");
        c.softIs(1, 403);
        c.queueIs(5, 0, LetterBroker.NONE);
    }

    private static void binding() {
        Client c = Client.open("binding", 1);
        c.tell(1, "40 10 'e' 0 0");
        c.tell(1, "50 10 'q' 0");
        c.tell(1, "50 10 'p' 0");
        c.forget();
        c.tell(1, "50 20 'q' 'e' 'k'");
        c.tell(1, "50 20 'q' 'e' 'k'");
        c.due("1/1 50 21", "1/1 50 21");
        c.queueIs(0, 2, 1);
        c.tell(1, "50 20 'q' 'e' ''");
        c.tell(1, "50 20 'p' 'e' 'k'");
        c.queueIs(0, 2, 2);
        c.queueIs(1, 2, 1);
    }

    private static void bindingMistakes() {
        for (String method : new String[] {"50 20", "50 50"}) {
            Client.soft("no queue " + method, 404, "40 10 'e' 0 0", method + " 'q' 'e' 'k'");
            Client.soft("no exchange " + method, 404, "50 10 'q' 0", method + " 'q' 'e' 'k'");
            Client.soft("neither " + method, 404, method + " 'q' 'e' 'k'");
            Client.soft("no queue, the nameless exchange " + method, 404, method + " 'q' '' 'k'");
            Client.soft("the nameless exchange " + method, 403, "50 10 'q' 0", method + " 'q' '' 'q'");
        }
    }

    private static void twelveBindings() {
        Client c = Client.open("twelve bindings", 1);
        c.tell(1, "40 10 'e' 0 0");
        c.tell(1, "40 10 'f' 1 0");
        c.tell(1, "50 10 'q' 0");
        c.tell(1, "50 10 'p' 0");
        c.forget();
        for (int i = 0; i < 12; i++) {
            c.tell(1, "50 20 " + (i < 7 ? "'q'" : "'p'") + " " + (i < 3 ? "'e'" : "'f'") + " 'k" + i + "'");
            c.due("1/1 50 21");
        }
        c.queueIs(0, 2, 7);
        c.queueIs(1, 2, 5);
        c.tell(1, "50 20 'q' 'e' 'k0'");
        c.due("1/1 50 21");
        c.tell(1, "50 20 'q' '' 'k0'");
        c.softIs(1, 403);
        c.reopen(1);
        c.tell(1, "50 20 'q' 'e' 'k3'");
        c.softIs(1, 506);
        c.queueIs(0, 2, 7);
    }

    private static void unbinding() {
        Client c = Client.open("unbinding", 1);
        c.tell(1, "40 10 'e' 0 0");
        c.tell(1, "50 10 'q' 0");
        c.tell(1, "50 20 'q' 'e' 'a'");
        c.tell(1, "50 20 'q' 'e' 'b'");
        c.forget();
        c.tell(1, "50 50 'q' 'e' 'c'");
        c.due("1/1 50 51");
        c.queueIs(0, 2, 2);
        c.tell(1, "50 50 'q' 'e' 'a'");
        c.due("1/1 50 51");
        c.queueIs(0, 2, 1);
        c.publish(1, "'e'", "'a'");
        c.queueIs(0, 0, 0);
        c.publish(1, "'e'", "'b'");
        c.queueIs(0, 0, 1);
    }

    private static void purging() {
        Client.soft("no queue to purge", 404, "50 30 'q'");
        Client c = Client.open("purging", 1);
        c.tell(1, "50 10 'q' 0");
        c.publish(1, "''", "'q'");
        c.publish(1, "''", "'q'");
        c.publish(1, "''", "'q'");
        c.tell(1, "60 70 'q' 0");
        c.forget();
        c.tell(1, "50 30 'q'");
        c.due("1/1 50 31 2");
        c.queueIs(0, 0, 0);
        c.channelIs(1, 1, 1);
        c.tell(1, "60 110");
        c.queueIs(0, 3, 1);
        c.publish(1, "''", "'q'");
        c.forget();
        c.tell(1, "50 30 'q'");
        c.tell(1, "50 30 'q'");
        c.due("1/1 50 31 2", "1/1 50 31 0");
    }

    private static void deletingQueues() {
        Client.soft("no queue to delete", 404, "50 40 'q' 0");
        Client.soft("the nameless queue is not there", 404, "50 40 '' 0");
        Client c = Client.open("deleting queues", 2);
        c.tell(1, "40 10 'e' 1 0");
        c.tell(1, "50 10 'q' 0");
        c.tell(1, "50 10 'p' 0");
        c.tell(1, "50 20 'q' 'e' 'k'");
        c.tell(1, "50 20 'p' 'e' 'k'");
        c.tell(2, "20 20 0");
        c.tell(2, "60 20 'q' 't' 0");
        c.tell(2, "60 20 'p' 'u' 0");
        c.publish(1, "''", "'q'");
        c.publish(1, "'e'", "''");
        c.forget();
        c.tell(1, "50 40 'q' 0");
        c.due("1/1 50 41 2");
        c.queueIs(1, 0, LetterBroker.NONE);
        c.queueIs(0, 0, 1);
        c.queueIs(0, 1, 1);
        c.queueIs(0, 2, 1);
        c.queueIs(0, 3, 3);
        c.tell(1, "50 10 'q' 0");
        c.due("1/1 50 11 'q' 0 0");
        c.queueIs(1, 2, 0);
        c.tell(2, "60 20 'q' 't' 0");
        c.due("1/2 60 21 't'");
        Client d = Client.open("deleting a queue deletes its bindings", 1);
        d.tell(1, "40 10 'e' 1 0");
        d.tell(1, "50 10 'q' 0");
        d.tell(1, "50 20 'q' 'e' 'k'");
        d.tell(1, "50 40 'q' 0");
        d.forget();
        d.tell(1, "40 20 'e' 1");
        d.due("1/1 40 21");
    }

    private static void deletingQueuesOnConditions() {
        for (int b : new int[] {0, 1, 2, 3, 4, 5, 6, 7, 252, 253, 254, 255}) {
            for (int state = 0; state < 4; state++) {
                boolean consumer = state % 2 == 1;
                boolean letter = state / 2 == 1;
                Client c = Client.open("deleting with " + b + " in state " + state, 1);
                c.tell(1, "20 20 0");
                c.tell(1, "50 10 'q' 0");
                if (consumer) {
                    c.tell(1, "60 20 'q' 't' 0");
                }
                if (letter) {
                    c.publish(1, "''", "'q'");
                }
                c.forget();
                c.tell(1, "50 40 'q' " + b);
                if ((b & 1) != 0 && consumer || (b & 2) != 0 && letter) {
                    c.softIs(1, 406);
                } else {
                    c.due("1/1 50 41 " + (letter ? 1 : 0));
                    c.queueIs(0, 0, LetterBroker.NONE);
                }
            }
        }
    }

    private static void heldLettersOfADeletedQueue() {
        Client c = Client.open("held letters of a deleted queue", 1);
        c.tell(1, "50 10 'q' 0");
        c.publish(1, "''", "'q'");
        c.publish(1, "''", "'q'");
        c.tell(1, "60 70 'q' 0");
        c.forget();
        c.tell(1, "50 40 'q' 0");
        c.due("1/1 50 41 1");
        c.channelIs(1, 1, 1);
        c.tell(1, "50 10 'q' 0");
        c.tell(1, "60 110");
        c.due("1/1 50 11 'q' 0 0", "1/1 60 111");
        c.channelIs(1, 1, 0);
        c.queueIs(0, 0, 0);
    }

    private static void queuesByDeclaration() {
        Client c = Client.open("queues by declaration", 1);
        c.tell(1, "50 10 'z' 0");
        c.tell(1, "50 10 'a' 0");
        c.tell(1, "50 10 'm' 0");
        c.tell(1, "50 10 'z' 0");
        c.publish(1, "''", "'z'");
        c.publish(1, "''", "'m'");
        c.queueIs(0, 3, 1);
        c.queueIs(1, 3, 0);
        c.queueIs(2, 3, 2);
        c.tell(1, "50 40 'z' 0");
        c.tell(1, "50 10 'z' 0");
        c.publish(1, "''", "'z'");
        c.queueIs(0, 3, 0);
        c.queueIs(1, 3, 2);
        c.queueIs(2, 3, 3);
    }
}
