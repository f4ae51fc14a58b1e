import java.util.ArrayList;
import java.util.List;

/**
 * A broker of letters that one client talks to in frames of bytes.
 *
 * A function that handles a part of a frame answers FINE or the number of its mistake, and step() alone acts on it: so
 * nothing is half done when a mistake shuts the line or loses a channel. A name is kept as a long, its bytes side by
 * side: none of them is 0, so equal longs are equal names, and no text need be made. A method is known by its two bytes
 * as one number; most are answered by the next one.
 */
public final class LetterBroker {
    public static final int NONE = -1;

    private static final int NEW = 0;
    private static final int GREETED = 1;
    private static final int TUNED = 2;
    private static final int READY = 3;
    private static final int OPEN = 4;
    private static final int SHUT = 5;

    private static final int CHANNEL_CLOSED = 0;
    private static final int CHANNEL_OPEN = 1;
    private static final int CHANNEL_LOST = 2;

    private static final int[] GREETING = {65, 77, 81, 80, 0, 0, 9, 1};
    private static final int METHOD = 1;
    private static final int HEAD = 2;
    private static final int BODY = 3;
    private static final int FRAME_END = 206;

    private static final int MISSING = 0;
    private static final int WHOLE = 1;
    private static final int WRONG = 2;

    private static final int DIRECT = 0;
    private static final int FANOUT = 1;
    private static final int TOPIC = 2;
    private static final long NAMELESS = 0;

    private static final int FINE = 0;
    private static final int RETURNED = 312;
    private static final int FORBIDDEN = 403;
    private static final int NOT_FOUND = 404;
    private static final int UNFIT = 406;
    private static final int BAD_BYTES = 501;
    private static final int OUT_OF_TURN = 503;
    private static final int NOT_DUE = 505;
    private static final int TOO_MANY = 506;
    private static final int TAG_TAKEN = 530;

    private static final int MOST_IN_A_SEND = 8;
    private static final int MOST_UNHANDLED = 300;
    private static final int UNRECEIVED_STOP = 500;
    private static final int MOST_PAYLOAD = 40;
    private static final int MOST_IN_A_NAME = 8;
    private static final int LOWEST_IN_A_NAME = 33;
    private static final int HIGHEST_IN_A_NAME = 126;
    private static final int MOST_IN_A_LETTER = 6;
    private static final int CHANNELS = 3;
    private static final int MOST_EXCHANGES = 6;
    private static final int MOST_QUEUES = 5;
    private static final int MOST_BINDINGS = 12;
    private static final int MOST_CONSUMERS = 6;
    private static final int MOST_LETTERS = 24;
    private static final int MOST_KEPT = 12;

    private static final int OK = 1;
    private static final int LINE_START = 10 << 8 | 10;
    private static final int LINE_START_OK = 10 << 8 | 11;
    private static final int LINE_TUNE = 10 << 8 | 30;
    private static final int LINE_TUNE_OK = 10 << 8 | 31;
    private static final int OPEN_LINE = 10 << 8 | 40;
    private static final int CLOSE_LINE = 10 << 8 | 50;
    private static final int OPEN_CHANNEL = 20 << 8 | 10;
    private static final int SET_FLOW = 20 << 8 | 20;
    private static final int CLOSE_CHANNEL = 20 << 8 | 40;
    private static final int CLOSE_CHANNEL_OK = 20 << 8 | 41;
    private static final int DECLARE_EXCHANGE = 40 << 8 | 10;
    private static final int DELETE_EXCHANGE = 40 << 8 | 20;
    private static final int DECLARE_QUEUE = 50 << 8 | 10;
    private static final int BIND = 50 << 8 | 20;
    private static final int PURGE = 50 << 8 | 30;
    private static final int DELETE_QUEUE = 50 << 8 | 40;
    private static final int UNBIND = 50 << 8 | 50;
    private static final int SET_LIMIT = 60 << 8 | 10;
    private static final int CONSUME = 60 << 8 | 20;
    private static final int CANCEL = 60 << 8 | 30;
    private static final int PUBLISH = 60 << 8 | 40;
    private static final int RETURN = 60 << 8 | 50;
    private static final int DELIVER = 60 << 8 | 60;
    private static final int GET = 60 << 8 | 70;
    private static final int GET_EMPTY = 60 << 8 | 72;
    private static final int ACKNOWLEDGE = 60 << 8 | 80;
    private static final int REJECT = 60 << 8 | 90;
    private static final int RECOVER = 60 << 8 | 110;
    private static final int REFUSE = 60 << 8 | 120;
    private static final int TRANSACT = 90 << 8 | 10;
    private static final int COMMIT = 90 << 8 | 20;
    private static final int ROLL_BACK = 90 << 8 | 30;

    private final Inbox inbox;
    private final Outbox outbox;
    private final Office office;
    private final Channel[] channels;
    private int lineState;

    public LetterBroker() {
        inbox = new Inbox();
        outbox = new Outbox();
        office = new Office();
        channels = new Channel[CHANNELS];
        for (int i = 0; i < CHANNELS; i++) {
            channels[i] = new Channel(i + 1);
        }
        lineState = NEW;
    }

    public int send(long bytes, int n) {
        if (lineState == SHUT || n < 1 || n > MOST_IN_A_SEND || inbox.size + n > MOST_UNHANDLED) {
            return NONE;
        }
        inbox.add(bytes, n);
        return inbox.size;
    }

    public int step() {
        if (lineState == SHUT || outbox.size >= UNRECEIVED_STOP) {
            return NONE;
        }
        int found = lineState == NEW ? inbox.lookForGreeting() : inbox.lookForFrame();
        if (found == MISSING) {
            return 0;
        }
        int mistake = BAD_BYTES;
        if (found == WHOLE) {
            mistake = lineState == NEW ? greet() : handleFrame();
        }
        settleMistake(mistake);
        inbox.dropHandled();
        deliverAll();
        return 1;
    }

    public int ready() {
        return outbox.size;
    }

    public int receive() {
        return outbox.take();
    }

    public int line() {
        return lineState;
    }

    public boolean connect() {
        if (lineState != SHUT) {
            return false;
        }
        lineState = NEW;
        return true;
    }

    public int channel(int c, int what) {
        Channel asked = channelNumbered(c);
        if (asked == null) {
            return NONE;
        }
        switch (what) {
            case 0: return asked.state;
            case 1: return asked.held.size();
            case 2: return asked.delivered;
            case 3: return asked.kept.size();
            default: return NONE;
        }
    }

    public int queue(int q, int what) {
        if (q < 0 || q >= office.queues.size()) {
            return NONE;
        }
        Queue asked = office.queues.get(q);
        switch (what) {
            case 0: return asked.waiting.size();
            case 1: return office.consumersOf(asked);
            case 2: return office.bindingsOf(asked);
            case 3: return asked.waiting.isEmpty() ? 0 : asked.waiting.get(0).number;
            default: return NONE;
        }
    }

    private Channel channelNumbered(int c) {
        return c < 1 || c > CHANNELS ? null : channels[c - 1];
    }

    // ---- the line, and what mistakes do to it ----

    private int greet() {
        outbox.tell(0, LINE_START);
        lineState = GREETED;
        return FINE;
    }

    private int doLineMethod(int method) {
        if (method != lineMethodInTurn()) {
            return OUT_OF_TURN;
        }
        if (!inbox.isJustRead()) {
            return BAD_BYTES;
        }
        switch (method) {
            case LINE_START_OK:
                outbox.tell(0, LINE_TUNE);
                lineState = TUNED;
                return FINE;
            case LINE_TUNE_OK:
                lineState = READY;
                return FINE;
            case OPEN_LINE:
                outbox.tell(0, OPEN_LINE + OK);
                lineState = OPEN;
                return FINE;
            default:
                outbox.tell(0, CLOSE_LINE + OK);
                shutLine();
                return FINE;
        }
    }

    private int lineMethodInTurn() {
        switch (lineState) {
            case GREETED: return LINE_START_OK;
            case TUNED: return LINE_TUNE_OK;
            case READY: return OPEN_LINE;
            default: return CLOSE_LINE;
        }
    }

    private void settleMistake(int mistake) {
        if (mistake == FINE) {
            return;
        }
        Channel channel = channelNumbered(inbox.frameChannel());
        if (mistake == BAD_BYTES || mistake == OUT_OF_TURN || mistake == NOT_DUE || channel == null) {
            outbox.tellMistake(0, CLOSE_LINE, mistake);
            shutLine();
        } else {
            outbox.tellMistake(channel.number, CLOSE_CHANNEL, mistake);
            leaveChannel(channel, CHANNEL_LOST);
        }
    }

    private void shutLine() {
        lineState = SHUT;
        inbox.clear();
        for (int i = 0; i < CHANNELS; i++) {
            leaveChannel(channels[i], CHANNEL_CLOSED);
        }
    }

    private void leaveChannel(Channel channel, int newState) {
        office.removeConsumersOn(channel);
        channel.giveAllBack();
        channel.leave(newState);
    }

    // ---- frames ----

    private int handleFrame() {
        int kind = inbox.frameKind();
        Channel channel = channelNumbered(inbox.frameChannel());
        if (channel != null && channel.state == CHANNEL_LOST) {
            return handleOnLost(channel, kind);
        }
        Draft draft = channel == null ? null : channel.draft;
        if (draft != null && kind == draft.due()) {
            return kind == HEAD ? takeHead(channel, draft) : takeBody(channel, draft);
        }
        if (draft != null || kind != METHOD) {
            return NOT_DUE;
        }
        if (inbox.unread() < 2) {
            return BAD_BYTES;
        }
        int method = inbox.readShort();
        return channel == null ? doLineMethod(method) : doMethod(channel, method);
    }

    private int handleOnLost(Channel channel, int kind) {
        if (kind == METHOD && inbox.readShort() == CLOSE_CHANNEL_OK && inbox.isJustRead()) {
            channel.state = CHANNEL_CLOSED;
        }
        return FINE;
    }

    private int doMethod(Channel channel, int method) {
        boolean opens = method == OPEN_CHANNEL;
        boolean isOpen = channel.state == CHANNEL_OPEN;
        if (lineState != OPEN || opens == isOpen) {
            return OUT_OF_TURN;
        }
        switch (method) {
            case OPEN_CHANNEL: return openChannel(channel);
            case SET_FLOW: return setFlow(channel);
            case CLOSE_CHANNEL: return closeChannel(channel);
            case DECLARE_EXCHANGE: return declareExchange(channel);
            case DELETE_EXCHANGE: return deleteExchange(channel);
            case DECLARE_QUEUE: return declareQueue(channel);
            case BIND: return changeBinding(channel, BIND);
            case PURGE: return purge(channel);
            case DELETE_QUEUE: return deleteQueue(channel);
            case UNBIND: return changeBinding(channel, UNBIND);
            case SET_LIMIT: return setLimit(channel);
            case CONSUME: return consume(channel);
            case CANCEL: return cancel(channel);
            case PUBLISH: return publish(channel);
            case GET: return get(channel);
            case ACKNOWLEDGE: return acknowledge(channel);
            case REJECT: return reject(channel);
            case RECOVER: return recover(channel);
            case REFUSE: return refuse(channel);
            case TRANSACT: return transact(channel);
            case COMMIT: return commit(channel);
            case ROLL_BACK: return rollBack(channel);
            default: return OUT_OF_TURN;
        }
    }

    // ---- channels ----

    private int openChannel(Channel channel) {
        if (!inbox.isJustRead()) {
            return BAD_BYTES;
        }
        channel.begin();
        outbox.tell(channel.number, OPEN_CHANNEL + OK);
        return FINE;
    }

    private int closeChannel(Channel channel) {
        if (!inbox.isJustRead()) {
            return BAD_BYTES;
        }
        leaveChannel(channel, CHANNEL_CLOSED);
        outbox.tell(channel.number, CLOSE_CHANNEL_OK);
        return FINE;
    }

    private int setFlow(Channel channel) {
        int flow = inbox.readByte();
        if (!inbox.isJustRead()) {
            return BAD_BYTES;
        }
        channel.flowing = flow != 0;
        outbox.begin(channel.number, SET_FLOW + OK);
        outbox.put(flow);
        outbox.end();
        return FINE;
    }

    private int setLimit(Channel channel) {
        int limit = inbox.readByte();
        if (!inbox.isJustRead()) {
            return BAD_BYTES;
        }
        channel.limit = limit;
        outbox.tell(channel.number, SET_LIMIT + OK);
        return FINE;
    }

    // ---- exchanges, queues, bindings, consumers ----

    private int declareExchange(Channel channel) {
        long name = inbox.readName();
        int kind = inbox.readByte();
        boolean mustBeThere = inbox.readFlag();
        if (!inbox.isJustRead() || kind > TOPIC) {
            return BAD_BYTES;
        }
        Exchange exchange = office.exchangeNamed(name);
        if (exchange == null && mustBeThere) {
            return NOT_FOUND;
        }
        if (name == NAMELESS) {
            return FORBIDDEN;
        }
        if (exchange != null && exchange.kind != kind) {
            return UNFIT;
        }
        if (exchange == null) {
            if (office.exchanges.size() >= MOST_EXCHANGES) {
                return TOO_MANY;
            }
            office.exchanges.add(new Exchange(name, kind));
        }
        outbox.tell(channel.number, DECLARE_EXCHANGE + OK);
        return FINE;
    }

    private int deleteExchange(Channel channel) {
        long name = inbox.readName();
        boolean onlyUnbound = inbox.readFlag();
        if (!inbox.isJustRead()) {
            return BAD_BYTES;
        }
        Exchange exchange = office.exchangeNamed(name);
        if (exchange == null) {
            return NOT_FOUND;
        }
        if (name == NAMELESS) {
            return FORBIDDEN;
        }
        if (onlyUnbound && office.isBound(exchange)) {
            return UNFIT;
        }
        office.remove(exchange);
        outbox.tell(channel.number, DELETE_EXCHANGE + OK);
        return FINE;
    }

    private int declareQueue(Channel channel) {
        long name = inbox.readName();
        boolean mustBeThere = inbox.readFlag();
        if (!inbox.isJustRead()) {
            return BAD_BYTES;
        }
        Queue queue = office.queueNamed(name);
        if (queue == null && mustBeThere) {
            return NOT_FOUND;
        }
        if (name == NAMELESS) {
            return FORBIDDEN;
        }
        if (queue == null) {
            if (office.queues.size() >= MOST_QUEUES) {
                return TOO_MANY;
            }
            queue = new Queue(name);
            office.queues.add(queue);
        }
        outbox.begin(channel.number, DECLARE_QUEUE + OK);
        outbox.putName(name);
        outbox.put(queue.waiting.size());
        outbox.put(office.consumersOf(queue));
        outbox.end();
        return FINE;
    }

    private int changeBinding(Channel channel, int method) {
        Queue queue = office.queueNamed(inbox.readName());
        Exchange exchange = office.exchangeNamed(inbox.readName());
        long key = inbox.readName();
        if (!inbox.isJustRead()) {
            return BAD_BYTES;
        }
        if (queue == null || exchange == null) {
            return NOT_FOUND;
        }
        if (exchange.name == NAMELESS) {
            return FORBIDDEN;
        }
        int place = office.bindingAt(queue, exchange, key);
        if (method == UNBIND && place >= 0) {
            office.bindings.remove(place);
        }
        if (method == BIND && place < 0) {
            if (office.bindings.size() >= MOST_BINDINGS) {
                return TOO_MANY;
            }
            office.bindings.add(new Binding(queue, exchange, key));
        }
        outbox.tell(channel.number, method + OK);
        return FINE;
    }

    private int purge(Channel channel) {
        Queue queue = office.queueNamed(inbox.readName());
        if (!inbox.isJustRead()) {
            return BAD_BYTES;
        }
        if (queue == null) {
            return NOT_FOUND;
        }
        outbox.begin(channel.number, PURGE + OK);
        outbox.put(queue.waiting.size());
        outbox.end();
        queue.waiting.clear();
        return FINE;
    }

    private int deleteQueue(Channel channel) {
        Queue queue = office.queueNamed(inbox.readName());
        int conditions = inbox.readByte();
        if (!inbox.isJustRead()) {
            return BAD_BYTES;
        }
        if (queue == null) {
            return NOT_FOUND;
        }
        boolean onlyUnused = conditions % 2 == 1;
        boolean onlyEmpty = conditions / 2 % 2 == 1;
        if (onlyUnused && office.consumersOf(queue) > 0 || onlyEmpty && !queue.waiting.isEmpty()) {
            return UNFIT;
        }
        outbox.begin(channel.number, DELETE_QUEUE + OK);
        outbox.put(queue.waiting.size());
        outbox.end();
        office.remove(queue);
        return FINE;
    }

    private int consume(Channel channel) {
        Queue queue = office.queueNamed(inbox.readName());
        long tag = inbox.readName();
        boolean holdsNothing = inbox.readFlag();
        if (!inbox.isJustRead()) {
            return BAD_BYTES;
        }
        if (queue == null) {
            return NOT_FOUND;
        }
        if (office.consumerAt(channel, tag) >= 0) {
            return TAG_TAKEN;
        }
        if (office.consumers.size() >= MOST_CONSUMERS) {
            return TOO_MANY;
        }
        office.addConsumer(queue, channel, tag, holdsNothing);
        outbox.begin(channel.number, CONSUME + OK);
        outbox.putName(tag);
        outbox.end();
        return FINE;
    }

    private int cancel(Channel channel) {
        long tag = inbox.readName();
        if (!inbox.isJustRead()) {
            return BAD_BYTES;
        }
        int place = office.consumerAt(channel, tag);
        if (place >= 0) {
            office.consumers.remove(place);
        }
        outbox.begin(channel.number, CANCEL + OK);
        outbox.putName(tag);
        outbox.end();
        return FINE;
    }

    // ---- letters on their way in ----

    private int publish(Channel channel) {
        long exchange = inbox.readName();
        long key = inbox.readName();
        boolean mustReach = inbox.readFlag();
        if (!inbox.isJustRead()) {
            return BAD_BYTES;
        }
        if (office.exchangeNamed(exchange) == null) {
            return NOT_FOUND;
        }
        channel.draft = new Draft(exchange, key, mustReach);
        return FINE;
    }

    private int takeHead(Channel channel, Draft draft) {
        int length = inbox.readByte();
        if (!inbox.isJustRead() || length > MOST_IN_A_LETTER) {
            return BAD_BYTES;
        }
        draft.length = length;
        return length == 0 ? complete(channel, draft) : FINE;
    }

    private int takeBody(Channel channel, Draft draft) {
        int size = inbox.unread();
        if (size == 0 || size > draft.lacks()) {
            return BAD_BYTES;
        }
        for (int i = 0; i < size; i++) {
            draft.append(inbox.readByte());
        }
        return draft.lacks() == 0 ? complete(channel, draft) : FINE;
    }

    private int complete(Channel channel, Draft draft) {
        channel.draft = null;
        return channel.transacted ? keep(channel, new Deed(draft)) : post(channel, draft);
    }

    private int post(Channel channel, Draft draft) {
        int reached = office.placesReachedBy(draft);
        if (Integer.bitCount(reached) + lettersInAll() > MOST_LETTERS) {
            return TOO_MANY;
        }
        if (reached == 0 && draft.mustReach) {
            sendReturned(channel, draft);
        }
        office.putInto(reached, draft);
        return FINE;
    }

    private int lettersInAll() {
        int count = office.lettersThatWait();
        for (int i = 0; i < CHANNELS; i++) {
            count += channels[i].held.size();
        }
        return count;
    }

    private void sendReturned(Channel channel, Draft draft) {
        outbox.begin(channel.number, RETURN);
        outbox.putShort(RETURNED);
        outbox.putName(draft.exchange);
        outbox.putName(draft.key);
        outbox.end();
        outbox.putContent(channel.number, draft);
    }

    // ---- letters on their way out ----

    private int get(Channel channel) {
        Queue queue = office.queueNamed(inbox.readName());
        boolean holdsNothing = inbox.readFlag();
        if (!inbox.isJustRead()) {
            return BAD_BYTES;
        }
        if (queue == null) {
            return NOT_FOUND;
        }
        if (queue.waiting.isEmpty()) {
            outbox.tell(channel.number, GET_EMPTY);
            return FINE;
        }
        Letter letter = queue.waiting.remove(0);
        channel.take(letter, holdsNothing);
        outbox.begin(channel.number, GET + OK);
        outbox.putLetter(letter);
        outbox.put(queue.waiting.size());
        outbox.end();
        outbox.putContent(channel.number, letter.draft);
        return FINE;
    }

    private void deliverAll() {
        if (lineState != OPEN) {
            return;
        }
        boolean found = true;
        for (int i = 0; i < MOST_LETTERS && found; i++) {
            found = deliverNext();
        }
    }

    private boolean deliverNext() {
        for (int i = 0; i < office.queues.size(); i++) {
            Queue queue = office.queues.get(i);
            Consumer consumer = queue.waiting.isEmpty() ? null : office.nextConsumerOf(queue);
            if (consumer != null) {
                deliver(queue, consumer);
                return true;
            }
        }
        return false;
    }

    private void deliver(Queue queue, Consumer consumer) {
        if (queue.waiting.isEmpty()) {
            return;
        }
        Letter letter = queue.waiting.remove(0);
        queue.latestServed = consumer.serial;
        consumer.channel.take(letter, consumer.holdsNothing);
        outbox.begin(consumer.channel.number, DELIVER);
        outbox.putName(consumer.tag);
        outbox.putLetter(letter);
        outbox.end();
        outbox.putContent(consumer.channel.number, letter.draft);
    }

    // ---- acknowledgements and transactions ----

    private int acknowledge(Channel channel) {
        int n = inbox.readShort();
        boolean upTo = inbox.readFlag();
        return settle(channel, n, upTo, false);
    }

    private int reject(Channel channel) {
        int n = inbox.readShort();
        boolean back = inbox.readFlag();
        return settle(channel, n, false, back);
    }

    private int refuse(Channel channel) {
        int n = inbox.readShort();
        boolean upTo = inbox.readFlag();
        boolean back = inbox.readFlag();
        return settle(channel, n, upTo, back);
    }

    private int settle(Channel channel, int n, boolean upTo, boolean back) {
        if (!inbox.isJustRead()) {
            return BAD_BYTES;
        }
        Deed deed = new Deed(n, upTo, back);
        if (!deed.coversAll() && !channel.holdsSomeOf(deed)) {
            return UNFIT;
        }
        if (channel.transacted) {
            return keep(channel, deed);
        }
        channel.settle(deed);
        return FINE;
    }

    private int recover(Channel channel) {
        if (!inbox.isJustRead()) {
            return BAD_BYTES;
        }
        channel.giveAllBack();
        outbox.tell(channel.number, RECOVER + OK);
        return FINE;
    }

    private int transact(Channel channel) {
        if (!inbox.isJustRead()) {
            return BAD_BYTES;
        }
        channel.transacted = true;
        outbox.tell(channel.number, TRANSACT + OK);
        return FINE;
    }

    private int keep(Channel channel, Deed deed) {
        if (channel.kept.size() >= MOST_KEPT) {
            return TOO_MANY;
        }
        channel.kept.add(deed);
        return FINE;
    }

    private int commit(Channel channel) {
        if (!inbox.isJustRead()) {
            return BAD_BYTES;
        }
        if (!channel.transacted) {
            return UNFIT;
        }
        for (int i = 0; i < channel.kept.size(); i++) {
            Deed deed = channel.kept.get(i);
            if (deed.draft == null) {
                channel.settle(deed);
            } else if (post(channel, deed.draft) != FINE) {
                return TOO_MANY;
            }
        }
        channel.kept.clear();
        outbox.tell(channel.number, COMMIT + OK);
        return FINE;
    }

    private int rollBack(Channel channel) {
        if (!inbox.isJustRead()) {
            return BAD_BYTES;
        }
        if (!channel.transacted) {
            return UNFIT;
        }
        channel.kept.clear();
        outbox.tell(channel.number, ROLL_BACK + OK);
        return FINE;
    }

    /** The client's bytes that are not handled yet, and a reader of the frame that they begin with. */
    private static final class Inbox {
        private static final int PAYLOAD_AT = 3;

        int size;
        private final int[] bytes = new int[MOST_UNHANDLED];
        private int handled;
        private int at;
        private int end;
        private boolean wrong;

        void add(long packed, int n) {
            for (int i = n - 1; i >= 0 && size < bytes.length; i--) {
                bytes[size] = (int) (packed >>> 8 * i) & 255;
                size++;
            }
        }

        int lookForGreeting() {
            for (int i = 0; i < size && i < GREETING.length; i++) {
                if (bytes[i] != GREETING[i]) {
                    return WRONG;
                }
            }
            if (size < GREETING.length) {
                return MISSING;
            }
            handled = GREETING.length;
            return WHOLE;
        }

        int lookForFrame() {
            if (size > 0 && (bytes[0] < METHOD || bytes[0] > BODY)
                    || size > 1 && bytes[1] > CHANNELS
                    || size > 2 && bytes[2] > MOST_PAYLOAD) {
                return WRONG;
            }
            if (size < PAYLOAD_AT || size <= PAYLOAD_AT + bytes[2]) {
                return MISSING;
            }
            at = PAYLOAD_AT;
            end = PAYLOAD_AT + bytes[2];
            handled = end + 1;
            wrong = false;
            return bytes[end] == FRAME_END ? WHOLE : WRONG;
        }

        int frameKind() {
            return bytes[0];
        }

        int frameChannel() {
            return bytes[1];
        }

        int unread() {
            return end - at;
        }

        /** Whether what was read is there, is right, and is the whole payload. */
        boolean isJustRead() {
            return !wrong && at == end;
        }

        int readByte() {
            if (at >= end) {
                wrong = true;
                return 0;
            }
            at++;
            return bytes[at - 1];
        }

        boolean readFlag() {
            return readByte() != 0;
        }

        int readShort() {
            int high = readByte();
            return high << 8 | readByte();
        }

        long readName() {
            int length = readByte();
            if (length > MOST_IN_A_NAME) {
                wrong = true;
            }
            long name = 0;
            for (int i = 0; i < length && !wrong; i++) {
                int read = readByte();
                if (read < LOWEST_IN_A_NAME || read > HIGHEST_IN_A_NAME) {
                    wrong = true;
                }
                name = name << 8 | read;
            }
            return name;
        }

        void dropHandled() {
            // A line that was shut has no bytes any more.
            if (handled <= size) {
                System.arraycopy(bytes, handled, bytes, 0, size - handled);
                size -= handled;
            }
        }

        void clear() {
            size = 0;
        }
    }

    /** The bytes that the broker sent and the client did not receive yet, in a ring. */
    private static final class Outbox {
        // A step begins below 500 bytes; it adds 24 deliveries of 51, 12 returned letters of 41, and an answer at most.
        private static final int ROOM = 2400;

        int size;
        private final int[] ring = new int[ROOM];
        private int first;
        private int lengthAt;
        private int sizeAtPayload;

        int take() {
            if (size == 0) {
                return NONE;
            }
            int taken = ring[first];
            first = (first + 1) % ROOM;
            size--;
            return taken;
        }

        void put(int sent) {
            if (size < ROOM) {
                ring[(first + size) % ROOM] = sent;
                size++;
            }
        }

        void putShort(int sent) {
            put(sent >> 8);
            put(sent & 255);
        }

        void putName(long name) {
            int length = 0;
            for (long rest = name; length < MOST_IN_A_NAME && rest != 0; rest >>>= 8) {
                length++;
            }
            put(length);
            for (int i = length - 1; i >= 0; i--) {
                put((int) (name >>> 8 * i) & 255);
            }
        }

        void begin(int channel, int method) {
            put(METHOD);
            put(channel);
            lengthAt = (first + size) % ROOM;
            put(0);
            sizeAtPayload = size;
            put(method >> 8);
            put(method & 255);
        }

        void end() {
            ring[lengthAt] = size - sizeAtPayload;
            put(FRAME_END);
        }

        void tell(int channel, int method) {
            begin(channel, method);
            end();
        }

        void tellMistake(int channel, int method, int mistake) {
            begin(channel, method);
            putShort(mistake);
            end();
        }

        void putLetter(Letter letter) {
            putShort(letter.deliveredAs);
            put(letter.redelivered ? 1 : 0);
            putName(letter.draft.exchange);
            putName(letter.draft.key);
        }

        void putContent(int channel, Draft draft) {
            put(HEAD);
            put(channel);
            put(1);
            put(draft.length);
            put(FRAME_END);
            if (draft.length > 0) {
                put(BODY);
                put(channel);
                put(draft.length);
                for (int i = draft.length - 1; i >= 0; i--) {
                    put((int) (draft.body >>> 8 * i) & 255);
                }
                put(FRAME_END);
            }
        }
    }

    /** All that outlives a line: exchanges, queues with what waits in them, bindings; and who consumes. */
    private static final class Office {
        final List<Exchange> exchanges = new ArrayList<>();
        final List<Queue> queues = new ArrayList<>();
        final List<Binding> bindings = new ArrayList<>();
        final List<Consumer> consumers = new ArrayList<>();
        private int latestNumber;
        private int latestSerial;

        Office() {
            exchanges.add(new Exchange(NAMELESS, DIRECT));
        }

        Exchange exchangeNamed(long name) {
            for (int i = 0; i < exchanges.size(); i++) {
                if (exchanges.get(i).name == name) {
                    return exchanges.get(i);
                }
            }
            return null;
        }

        Queue queueNamed(long name) {
            for (int i = 0; i < queues.size(); i++) {
                if (queues.get(i).name == name) {
                    return queues.get(i);
                }
            }
            return null;
        }

        int bindingAt(Queue queue, Exchange exchange, long key) {
            for (int i = 0; i < bindings.size(); i++) {
                Binding binding = bindings.get(i);
                if (binding.queue == queue && binding.exchange == exchange && binding.key == key) {
                    return i;
                }
            }
            return NONE;
        }

        int consumerAt(Channel channel, long tag) {
            for (int i = 0; i < consumers.size(); i++) {
                if (consumers.get(i).channel == channel && consumers.get(i).tag == tag) {
                    return i;
                }
            }
            return NONE;
        }

        int consumersOf(Queue queue) {
            int count = 0;
            for (int i = 0; i < consumers.size(); i++) {
                count += consumers.get(i).queue == queue ? 1 : 0;
            }
            return count;
        }

        int bindingsOf(Queue queue) {
            int count = 0;
            for (int i = 0; i < bindings.size(); i++) {
                count += bindings.get(i).queue == queue ? 1 : 0;
            }
            return count;
        }

        boolean isBound(Exchange exchange) {
            for (int i = 0; i < bindings.size(); i++) {
                if (bindings.get(i).exchange == exchange) {
                    return true;
                }
            }
            return false;
        }

        int lettersThatWait() {
            int count = 0;
            for (int i = 0; i < queues.size(); i++) {
                count += queues.get(i).waiting.size();
            }
            return count;
        }

        void addConsumer(Queue queue, Channel channel, long tag, boolean holdsNothing) {
            latestSerial++;
            consumers.add(new Consumer(queue, channel, tag, holdsNothing, latestSerial));
        }

        void removeConsumersOn(Channel channel) {
            for (int i = consumers.size() - 1; i >= 0; i--) {
                if (consumers.get(i).channel == channel) {
                    consumers.remove(i);
                }
            }
        }

        void remove(Exchange exchange) {
            for (int i = bindings.size() - 1; i >= 0; i--) {
                if (bindings.get(i).exchange == exchange) {
                    bindings.remove(i);
                }
            }
            for (int i = exchanges.size() - 1; i >= 0; i--) {
                if (exchanges.get(i) == exchange) {
                    exchanges.remove(i);
                }
            }
        }

        void remove(Queue queue) {
            for (int i = bindings.size() - 1; i >= 0; i--) {
                if (bindings.get(i).queue == queue) {
                    bindings.remove(i);
                }
            }
            for (int i = consumers.size() - 1; i >= 0; i--) {
                if (consumers.get(i).queue == queue) {
                    consumers.remove(i);
                }
            }
            for (int i = queues.size() - 1; i >= 0; i--) {
                if (queues.get(i) == queue) {
                    queues.remove(i);
                }
            }
        }

        /** Of the willing ones, the first that came after the one served latest; else, round, the first of all. */
        Consumer nextConsumerOf(Queue queue) {
            Consumer firstOfAll = null;
            for (int i = 0; i < consumers.size(); i++) {
                Consumer consumer = consumers.get(i);
                if (consumer.queue == queue && consumer.isWilling()) {
                    if (consumer.serial > queue.latestServed) {
                        return consumer;
                    }
                    firstOfAll = firstOfAll == null ? consumer : firstOfAll;
                }
            }
            return firstOfAll;
        }

        /** The places of the queues that a draft comes to, as a set of bits. */
        int placesReachedBy(Draft draft) {
            int places = 0;
            for (int i = 0; i < queues.size(); i++) {
                if (reaches(draft, queues.get(i))) {
                    places |= 1 << i;
                }
            }
            return places;
        }

        void putInto(int places, Draft draft) {
            for (int i = 0; i < queues.size(); i++) {
                if ((places >> i & 1) == 1) {
                    latestNumber++;
                    queues.get(i).waiting.add(new Letter(draft, queues.get(i), latestNumber));
                }
            }
        }

        private boolean reaches(Draft draft, Queue queue) {
            if (draft.exchange == NAMELESS) {
                return draft.key == queue.name;
            }
            for (int i = 0; i < bindings.size(); i++) {
                Binding binding = bindings.get(i);
                if (binding.queue == queue && binding.exchange.name == draft.exchange && binding.fits(draft)) {
                    return true;
                }
            }
            return false;
        }
    }

    private static final class Exchange {
        final long name;
        final int kind;

        Exchange(long name, int kind) {
            this.name = name;
            this.kind = kind;
        }
    }

    private static final class Queue {
        final long name;
        final List<Letter> waiting = new ArrayList<>();
        int latestServed;

        Queue(long name) {
            this.name = name;
        }

        /** Of a queue that was deleted nobody asks any more: what comes back to it is gone. */
        void takeBack(Letter letter) {
            letter.redelivered = true;
            int place = 0;
            while (place < waiting.size() && waiting.get(place).number < letter.number) {
                place++;
            }
            waiting.add(place, letter);
        }
    }

    private static final class Binding {
        private static final long ANY_WORD = '*';
        private static final long ANY_WORDS = '#';
        private static final int DOT = '.';

        final Queue queue;
        final Exchange exchange;
        final long key;
        private final long[] words;

        Binding(Queue queue, Exchange exchange, long key) {
            this.queue = queue;
            this.exchange = exchange;
            this.key = key;
            words = wordsOf(key);
        }

        boolean fits(Draft draft) {
            if (exchange.kind != TOPIC) {
                return exchange.kind == FANOUT || draft.key == key;
            }
            // A set of bits: bit n stands when the pattern's words so far fit the first n words of the draft.
            int fitting = 1;
            for (int i = 0; i < words.length; i++) {
                int next = words[i] == ANY_WORDS ? fitting : 0;
                for (int n = 0; n < draft.words.length; n++) {
                    boolean onlyOne = words[i] == ANY_WORD || words[i] == draft.words[n];
                    int before = words[i] == ANY_WORDS ? next : onlyOne ? fitting : 0;
                    next |= (before >> n & 1) << (n + 1);
                }
                fitting = next;
            }
            return (fitting >> draft.words.length & 1) == 1;
        }

        static long[] wordsOf(long name) {
            int count = 1;
            for (int i = MOST_IN_A_NAME - 1; i >= 0; i--) {
                count += (name >>> 8 * i & 255) == DOT ? 1 : 0;
            }
            long[] words = new long[count];
            int place = 0;
            for (int i = MOST_IN_A_NAME - 1; i >= 0; i--) {
                long letter = name >>> 8 * i & 255;
                if (letter == DOT) {
                    place++;
                } else if (place < count) {
                    words[place] = words[place] << 8 | letter;
                }
            }
            return words;
        }
    }

    private static final class Consumer {
        final Queue queue;
        final Channel channel;
        final long tag;
        final boolean holdsNothing;
        final int serial;

        Consumer(Queue queue, Channel channel, long tag, boolean holdsNothing, int serial) {
            this.queue = queue;
            this.channel = channel;
            this.tag = tag;
            this.holdsNothing = holdsNothing;
            this.serial = serial;
        }

        boolean isWilling() {
            return channel.flowing && (holdsNothing || channel.limit == 0 || channel.held.size() < channel.limit);
        }
    }

    /** What was published: still without its bytes, or complete; then the letters in all queues share it. */
    private static final class Draft {
        private static final int UNKNOWN = -1;

        final long exchange;
        final long key;
        final boolean mustReach;
        final long[] words;
        int length = UNKNOWN;
        long body;
        private int bodySize;

        Draft(long exchange, long key, boolean mustReach) {
            this.exchange = exchange;
            this.key = key;
            this.mustReach = mustReach;
            words = Binding.wordsOf(key);
        }

        int due() {
            return length == UNKNOWN ? HEAD : BODY;
        }

        int lacks() {
            return length - bodySize;
        }

        void append(int added) {
            body = body << 8 | added;
            bodySize++;
        }
    }

    /** A letter in one queue, or held by a channel that it was delivered to. */
    private static final class Letter {
        final Draft draft;
        final Queue home;
        final int number;
        boolean redelivered;
        int deliveredAs;

        Letter(Draft draft, Queue home, int number) {
            this.draft = draft;
            this.home = home;
            this.number = number;
        }
    }

    /** What a channel does at once or keeps for its commit: it posts a draft, or (without one) settles letters held. */
    private static final class Deed {
        final Draft draft;
        private final int n;
        private final boolean upTo;
        final boolean back;

        Deed(Draft draft) {
            this.draft = draft;
            n = 0;
            upTo = false;
            back = false;
        }

        Deed(int n, boolean upTo, boolean back) {
            draft = null;
            this.n = n;
            this.upTo = upTo;
            this.back = back;
        }

        boolean coversAll() {
            return upTo && n == 0;
        }

        boolean covers(Letter letter) {
            return coversAll() || (upTo ? letter.deliveredAs <= n : letter.deliveredAs == n);
        }
    }

    private static final class Channel {
        final int number;
        final List<Letter> held = new ArrayList<>();
        final List<Deed> kept = new ArrayList<>();
        int state = CHANNEL_CLOSED;
        int limit;
        boolean flowing;
        boolean transacted;
        int delivered;
        Draft draft;

        Channel(int number) {
            this.number = number;
        }

        void begin() {
            state = CHANNEL_OPEN;
            limit = 0;
            flowing = true;
            delivered = 0;
        }

        void take(Letter letter, boolean holdsNothing) {
            delivered++;
            letter.deliveredAs = delivered;
            if (!holdsNothing) {
                held.add(letter);
            }
        }

        boolean holdsSomeOf(Deed deed) {
            for (int i = 0; i < held.size(); i++) {
                if (deed.covers(held.get(i))) {
                    return true;
                }
            }
            return false;
        }

        void settle(Deed deed) {
            for (int i = held.size() - 1; i >= 0; i--) {
                Letter letter = held.get(i);
                if (deed.covers(letter)) {
                    held.remove(i);
                    if (deed.back) {
                        letter.home.takeBack(letter);
                    }
                }
            }
        }

        void giveAllBack() {
            for (int i = 0; i < held.size(); i++) {
                held.get(i).home.takeBack(held.get(i));
            }
            held.clear();
        }

        void leave(int newState) {
            state = newState;
            kept.clear();
            transacted = false;
            draft = null;
        }
    }
}
