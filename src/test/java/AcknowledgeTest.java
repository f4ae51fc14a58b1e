/** Promise 3: acknowledgements, letters that go back, and transactions. */
public final class AcknowledgeTest {
    public static void main(String[] args) {
        acknowledgingOne();
        acknowledgingUpTo();
        acknowledgingAll();
        unfitNumbers();
        rejecting();
        refusing();
        backAtItsPlace();
        recovering();
        notTransacted();
        committing();
        rollingBack();
        keptAcknowledgements();
        keptAllIsWhatIsHeldThen();
        keptAreTestedWhenTheyCome();
        mostKept();
        tooManyAtACommit();
        returnedAtACommit();
        transactingTwice();
        exchangeIsLookedUpAtTheCommit();
        Client.end();
    }

    /** Channel 1 holds the letters 1 to 4 of q, which have the keys q and the numbers 1 to 4. */
    private static Client holdingFour(String story) {
        Client c = Client.open(story, 2);
        c.tell(1, "50 10 'q' 0");
        for (int i = 1; i <= 4; i++) {
            c.publish(2, "''", "'q'");
            c.tell(1, "60 70 'q' 0");
        }
        c.channelIs(1, 1, 4);
        c.forget();
        return c;
    }

    private static void acknowledgingOne() {
        Client c = holdingFour("acknowledging one");
        c.tell(1, "60 80 #3 0");
        c.due();
        c.channelIs(1, 1, 3);
        c.tell(1, "60 110");
        c.queueIs(0, 0, 3);
        c.due("1/1 60 111");
        for (int i = 5; i <= 7; i++) {
            c.tell(1, "60 70 'q' 0");
            c.due("1/1 60 71 #" + i + " 1 '' 'q' " + (7 - i), "2/1 0");
        }
        c.tell(1, "60 80 #3 0");
        c.softIs(1, 406);
    }

    private static void acknowledgingUpTo() {
        Client c = holdingFour("acknowledging up to one");
        c.tell(1, "60 80 #2 0");
        c.tell(1, "60 80 #3 1");
        c.due();
        c.channelIs(1, 1, 1);
        c.tell(1, "60 110");
        c.queueIs(0, 3, 4);
        Client d = holdingFour("acknowledging up to one that is not held");
        d.tell(1, "60 80 #3 0");
        d.tell(1, "60 80 #3 9");
        d.channelIs(1, 1, 1);
        d.tell(1, "60 80 #60000 1");
        d.channelIs(1, 1, 0);
        d.due();
        d.tell(1, "60 80 #60000 1");
        d.softIs(1, 406);
    }

    private static void acknowledgingAll() {
        Client c = holdingFour("acknowledging all");
        c.tell(1, "60 80 #0 1");
        c.due();
        c.channelIs(1, 1, 0);
        c.queueIs(0, 0, 0);
        c.tell(1, "60 80 #0 1");
        c.tell(1, "60 120 #0 1 1");
        c.due();
        c.channelIs(1, 0, 1);
    }

    private static void unfitNumbers() {
        for (String method : new String[] {"60 80 #0 0", "60 80 #5 0", "60 80 #256 0", "60 120 #0 0 1", "60 120 #5 0 0",
            "60 90 #0 1", "60 90 #5 0", "60 90 #0 0"}) {
            Client c = holdingFour("no such letter " + method);
            c.tell(1, method);
            c.softIs(1, 406);
            c.queueIs(0, 0, 4);
        }
        for (String method : new String[] {"60 80 #1 1", "60 120 #1 1 1", "60 120 #1 1 0"}) {
            Client c = holdingFour("none up to it " + method);
            c.tell(1, "60 80 #1 0");
            c.tell(1, method);
            c.softIs(1, 406);
            c.queueIs(0, 0, 3);
        }
        Client c = holdingFour("another channel's letter");
        c.tell(2, "60 80 #1 0");
        c.softIs(2, 406);
        c.channelIs(1, 1, 4);
    }

    private static void rejecting() {
        Client c = holdingFour("rejecting");
        c.tell(1, "60 90 #2 0");
        c.channelIs(1, 1, 3);
        c.queueIs(0, 0, 0);
        c.tell(1, "60 90 #3 1");
        c.due();
        c.channelIs(1, 1, 2);
        c.queueIs(0, 0, 1);
        c.queueIs(0, 3, 3);
        c.tell(2, "60 70 'q' 1");
        c.due("1/2 60 71 #1 1 '' 'q' 0", "2/2 0");
    }

    private static void refusing() {
        Client c = holdingFour("refusing");
        c.tell(1, "60 120 #2 0 0");
        c.channelIs(1, 1, 3);
        c.queueIs(0, 0, 0);
        c.tell(1, "60 120 #3 1 2");
        c.channelIs(1, 1, 1);
        c.queueIs(0, 0, 2);
        c.queueIs(0, 3, 1);
        c.tell(1, "60 120 #0 1 1");
        c.due();
        c.channelIs(1, 1, 0);
        c.queueIs(0, 0, 3);
        Client d = holdingFour("refusing, gone");
        d.tell(1, "60 120 #3 1 0");
        d.channelIs(1, 1, 1);
        d.tell(1, "60 120 #0 1 0");
        d.due();
        d.channelIs(1, 1, 0);
        d.queueIs(0, 0, 0);
    }

    private static void backAtItsPlace() {
        Client c = holdingFour("back at its place");
        c.publish(2, "''", "'q'");
        c.tell(1, "60 120 #4 0 1");
        c.tell(1, "60 120 #2 0 1");
        c.tell(1, "60 120 #3 0 1");
        c.queueIs(0, 3, 2);
        String[] due = {"#1 1 '' 'q' 3", "#2 1 '' 'q' 2", "#3 1 '' 'q' 1", "#4 0 '' 'q' 0"};
        for (int i = 0; i < 4; i++) {
            c.tell(2, "60 70 'q' 1");
            c.due("1/2 60 71 " + due[i], "2/2 0");
            c.queueIs(0, 3, i < 3 ? i + 3 : 0);
        }
    }

    private static void recovering() {
        Client c = holdingFour("recovering");
        c.tell(1, "60 20 'q' 't' 0");
        c.tell(1, "60 10 2");
        c.tell(1, "60 80 #1 0");
        c.forget();
        c.tell(1, "60 110");
        c.due("1/1 60 111", "1/1 60 60 't' #5 1 '' 'q'", "2/1 0", "1/1 60 60 't' #6 1 '' 'q'", "2/1 0");
        c.queueIs(0, 3, 4);
        c.tell(2, "60 110");
        c.due("1/2 60 111");
    }

    private static void notTransacted() {
        for (String method : new String[] {"90 20", "90 30"}) {
            Client c = Client.open("not transacted " + method, 2);
            c.tell(2, "90 10");
            c.due("1/2 90 11");
            c.tell(1, method);
            c.softIs(1, 406);
        }
        Client c = Client.open("not transacted when opened again", 1);
        c.tell(1, "90 10");
        c.tell(1, "20 40");
        c.tell(1, "20 10");
        c.forget();
        c.tell(1, "90 30");
        c.softIs(1, 406);
    }

    private static void committing() {
        Client c = Client.open("committing", 2);
        c.tell(1, "50 10 'q' 0");
        c.tell(2, "60 20 'q' 't' 0");
        c.forget();
        c.tell(1, "90 10");
        c.due("1/1 90 11");
        c.publish(1, "''", "'q'");
        c.tell(1, "60 40 '' 'q' 0");
        c.head(1, 1);
        c.channelIs(1, 3, 1);
        c.body(1, "5");
        c.channelIs(1, 3, 2);
        c.due();
        c.queueIs(0, 0, 0);
        c.publish(2, "''", "'q'");
        c.due("1/2 60 60 't' #1 0 '' 'q'", "2/2 0");
        c.tell(1, "90 20");
        c.due("1/1 90 21", "1/2 60 60 't' #2 0 '' 'q'", "2/2 0", "1/2 60 60 't' #3 0 '' 'q'", "2/2 1", "3/2 5");
        c.channelIs(1, 3, 0);
        c.tell(1, "90 20");
        c.due("1/1 90 21");
        c.publish(1, "''", "'q'");
        c.channelIs(1, 3, 1);
        c.due();
    }

    private static void rollingBack() {
        Client c = holdingFour("rolling back");
        c.tell(1, "90 10");
        c.publish(1, "''", "'q'");
        c.tell(1, "60 80 #1 0");
        c.channelIs(1, 3, 2);
        c.forget();
        c.tell(1, "90 30");
        c.due("1/1 90 31");
        c.channelIs(1, 3, 0);
        c.channelIs(1, 1, 4);
        c.tell(1, "90 20");
        c.due("1/1 90 21");
        c.queueIs(0, 0, 0);
        c.channelIs(1, 1, 4);
        c.tell(1, "60 80 #1 0");
        c.channelIs(1, 3, 1);
    }

    private static void keptAcknowledgements() {
        Client c = holdingFour("kept acknowledgements");
        c.tell(1, "90 10");
        c.tell(1, "60 80 #1 0");
        c.tell(1, "60 80 #1 0");
        c.tell(1, "60 90 #2 1");
        c.tell(1, "60 120 #2 1 0");
        c.tell(1, "60 120 #4 0 1");
        c.channelIs(1, 1, 4);
        c.channelIs(1, 3, 5);
        c.queueIs(0, 0, 0);
        c.forget();
        c.tell(1, "90 20");
        c.due("1/1 90 21");
        c.channelIs(1, 1, 1);
        c.queueIs(0, 0, 2);
        c.queueIs(0, 3, 2);
        c.tell(1, "60 80 #3 0");
        c.tell(1, "60 110");
        c.due("1/1 60 111");
        c.queueIs(0, 0, 3);
        c.tell(1, "90 20");
        c.due("1/1 90 21");
        c.queueIs(0, 0, 3);
    }

    private static void keptAllIsWhatIsHeldThen() {
        Client c = holdingFour("kept: all that it holds then");
        c.tell(1, "90 10");
        c.tell(1, "60 80 #0 1");
        c.publish(2, "''", "'q'");
        c.tell(1, "60 70 'q' 0");
        c.channelIs(1, 1, 5);
        c.tell(1, "90 20");
        c.channelIs(1, 1, 0);
        Client d = holdingFour("kept: up to one, not what comes later");
        d.tell(1, "90 10");
        d.tell(1, "60 80 #4 1");
        d.publish(2, "''", "'q'");
        d.tell(1, "60 70 'q' 0");
        d.tell(1, "90 20");
        d.channelIs(1, 1, 1);
    }

    private static void keptAreTestedWhenTheyCome() {
        for (String method : new String[] {"60 80 #5 0", "60 90 #0 1", "60 120 #9 0 1"}) {
            Client c = holdingFour("tested when it comes " + method);
            c.tell(1, "90 10");
            c.tell(1, "60 80 #1 0");
            c.forget();
            c.tell(1, method);
            c.softIs(1, 406);
            c.queueIs(0, 0, 4);
            c.channelIs(1, 3, 0);
        }
        Client c = Client.open("publishing is tested when it comes", 1);
        c.tell(1, "90 10");
        c.forget();
        c.tell(1, "60 40 'e' 'k' 0");
        c.softIs(1, 404);
    }

    private static void mostKept() {
        Client c = holdingFour("twelve kept, then a letter");
        c.tell(1, "90 10");
        for (int i = 0; i < 12; i++) {
            if (i % 2 == 0) {
                c.publish(1, "''", "'q'");
            } else {
                c.tell(1, "60 80 #1 0");
            }
        }
        c.channelIs(1, 3, 12);
        c.forget();
        c.tell(1, "60 40 '' 'q' 0");
        c.head(1, 1);
        c.due();
        c.body(1, "1");
        c.softIs(1, 506);
        c.queueIs(0, 0, 4);
        Client d = holdingFour("twelve kept, then acknowledgements");
        d.tell(1, "90 10");
        for (int i = 0; i < 12; i++) {
            d.tell(1, "60 80 #0 1");
        }
        d.forget();
        d.tell(1, "60 110");
        d.due("1/1 60 111");
        d.channelIs(1, 3, 12);
        d.tell(1, "60 80 #0 1");
        d.softIs(1, 506);
        Client e = Client.open("twelve kept, then an unfit one", 1);
        e.tell(1, "90 10");
        for (int i = 0; i < 12; i++) {
            e.tell(1, "60 80 #0 1");
        }
        e.forget();
        e.tell(1, "60 80 #1 0");
        e.softIs(1, 406);
    }

    private static void tooManyAtACommit() {
        Client c = Client.open("too many at a commit", 2);
        c.tell(2, "50 10 'q' 0");
        for (int i = 0; i < 22; i++) {
            c.publish(2, "''", "'q'");
        }
        c.tell(1, "60 70 'q' 0");
        c.tell(1, "60 70 'q' 0");
        c.tell(1, "90 10");
        c.tell(1, "60 80 #1 0");
        for (int i = 0; i < 4; i++) {
            c.publish(1, "''", "'q'");
        }
        c.tell(1, "60 80 #2 0");
        c.channelIs(1, 3, 6);
        c.forget();
        c.tell(1, "90 20");
        c.softIs(1, 506);
        c.queueIs(0, 0, 24);
        c.queueIs(0, 3, 2);
        c.channelIs(1, 3, 0);
        c.channelIs(1, 1, 0);
    }

    private static void returnedAtACommit() {
        Client c = Client.open("returned at a commit", 1);
        c.tell(1, "50 10 'q' 0");
        c.tell(1, "90 10");
        c.forget();
        for (String key : new String[] {"'a'", "'q'", "'b'"}) {
            c.tell(1, "60 40 '' " + key + " 1");
            c.head(1, 1);
            c.body(1, "4");
        }
        c.due();
        c.tell(1, "90 20");
        c.due("1/1 60 50 #312 '' 'a'", "2/1 1", "3/1 4", "1/1 60 50 #312 '' 'b'", "2/1 1", "3/1 4", "1/1 90 21");
        c.queueIs(0, 0, 1);
    }

    private static void transactingTwice() {
        Client c = Client.open("transacting twice", 1);
        c.tell(1, "50 10 'q' 0");
        c.tell(1, "90 10");
        c.publish(1, "''", "'q'");
        c.forget();
        c.tell(1, "90 10");
        c.due("1/1 90 11");
        c.channelIs(1, 3, 1);
        c.tell(1, "90 20");
        c.queueIs(0, 0, 1);
    }

    private static void exchangeIsLookedUpAtTheCommit() {
        Client c = Client.open("an exchange is looked up at the commit", 1);
        c.tell(1, "40 10 'e' 1 0");
        c.tell(1, "50 10 'q' 0");
        c.tell(1, "90 10");
        c.publish(1, "'e'", "'k'");
        c.tell(1, "50 20 'q' 'e' ''");
        c.tell(1, "90 20");
        c.queueIs(0, 0, 1);
        c.tell(1, "60 40 'e' 'k' 1");
        c.head(1, 0);
        c.tell(1, "40 20 'e' 0");
        c.forget();
        c.tell(1, "90 20");
        c.due("1/1 60 50 #312 'e' 'k'", "2/1 0", "1/1 90 21");
        c.queueIs(0, 0, 1);
    }
}
