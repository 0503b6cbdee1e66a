/** Promises 28 to 37, 46 and 47, and CALLS: how bursts are assigned. */
public final class CarrierTest {
    private static final int NOT_FOUND = -1;
    private static final int WAITING = 0, ACTIVE = 1;
    private static final String STATIONS = "station a 0 0 0 0;station b 0 0 0 0;station c 0 0 0 0;"
            + "station d 0 0 0 0;station e 0 0 0 0;station f 0 0 0 0;";
    /** Bursts stand from 40 to 390; each is 20 longer than its call. */
    private static final String WIDE = "set length 400;set guard 10;set reference 30;" + STATIONS;
    /** Bursts stand from 1 to 200, side by side; each is 1 longer than its call. */
    private static final String NARROW = "set length 200;set guard 0;set reference 1;set preamble 1;" + STATIONS;

    private CarrierTest() {
    }

    public static void main(String[] args) {
        wrongIndexes();
        wholeFrame();
        guards();
        sendersAndReceivers();
        guardBehindAnotherCarrier();
        guardBehindTheSameCarrier();
        leastStart();
        behindAllOthers();
        queueOrder();
        rowsOfBursts();
        symbolsOfBursts();
        longestFits();
        longestFitOfOddFrames();
        nextEnds();
        fitting();
        dropping();
        droppingOverCarriers();
        carriers();
        carriersAnew();
        carriersAnewWithWaitingCalls();
        earliestStarts();
        Check.end();
    }

    private static void wrongIndexes() {
        for (SatelliteExchange x : new SatelliteExchange[] {new SatelliteExchange(),
            Check.loaded("carriers 3;" + WIDE + "call a b 0 1 1;")}) {
            int n = x.carrierCount();
            for (int c : new int[] {-1, n, n + 1, 4, Integer.MIN_VALUE, Integer.MAX_VALUE}) {
                Check.outOfBounds("callsOn " + c, () -> x.callsOn(c));
                Check.outOfBounds("usedSymbols " + c, () -> x.usedSymbols(c));
                Check.outOfBounds("callAt " + c, () -> x.callAt(c, 0));
                Check.outOfBounds("longestFit " + c, () -> x.longestFit(c));
                Check.outOfBounds("callOver " + c, () -> x.callOver(c, 0));
                Check.outOfBounds("earliestStart, carrier " + c, () -> x.earliestStart(0, c));
            }
            int calls = x.callCount();
            for (int k : new int[] {-1, calls, calls + 1, 16, Integer.MIN_VALUE, Integer.MAX_VALUE}) {
                Check.outOfBounds("fitsWithout " + k, () -> x.fitsWithout(k, 0) ? 1 : 0);
                Check.outOfBounds("callsToDrop " + k, () -> x.callsToDrop(k));
                Check.outOfBounds("earliestStart " + k, () -> x.earliestStart(k, 0));
            }
        }
    }

    private static void wholeFrame() {
        SatelliteExchange x = Check.loaded(WIDE + "call a b 0 331 9;call a b 0 330 9;");
        Check.due("a burst that is one too long", WAITING, x.stateOf(0));
        Check.due("a burst that just fits", ACTIVE, x.stateOf(1));
        Check.due("its start", 40, x.startOf(1));
        x = Check.loaded(NARROW + "call a b 0 199 9;call a b 0 198 9;");
        Check.due("without guard, one too long", WAITING, x.stateOf(0));
        Check.due("without guard, just fitting", ACTIVE, x.stateOf(1));
        Check.due("without guard, its start", 1, x.startOf(1));
    }

    private static void guards() {
        SatelliteExchange x = Check.loaded(WIDE + "call a b 0 80 9;call c d 0 80 9;call e f 0 80 9;");
        Check.due("first start", 40, x.startOf(0));
        Check.due("second start", 150, x.startOf(1));
        Check.due("third start", 260, x.startOf(2));
        x.release(1);
        x.request(0, 1, 0, 81, 9);
        Check.due("a gap that is one too short", WAITING, x.stateOf(3));
        x.request(0, 1, 0, 80, 9);
        Check.due("a gap that is just long enough", 150, x.startOf(4));
        x = Check.loaded(NARROW + "call a b 0 9 9;call c d 0 9 9;");
        Check.due("bursts side by side", 11, x.startOf(1));
    }

    private static void sendersAndReceivers() {
        SatelliteExchange x = Check.loaded("carriers 3;" + WIDE
                + "call a b 0 80 9;call b a 0 80 9;call a c 0 80 9;call d b 0 30 9;call c d 0 5 9;");
        int[] carriers = {0, 1, 0, 1, 2};
        int[] starts = {40, 40, 150, 150, 40};
        for (int k = 0; k < 5; k++) {
            Check.due("carrier of call " + k, carriers[k], x.carrierOf(k));
            Check.due("start of call " + k, starts[k], x.startOf(k));
        }
        x.request(2, 3, 0, 10, 9);
        Check.due("behind the call of the same pair", 2, x.carrierOf(5));
        Check.due("its start", 75, x.startOf(5));
        x.request(2, 0, 0, 10, 9);
        Check.due("between calls of the same sender and behind one of the same receiver", 150, x.startOf(6));
        Check.due("its carrier", 2, x.carrierOf(6));
    }

    /** A start that is free on its carrier, but in the guard behind a burst of the same station on the other one. */
    private static void guardBehindAnotherCarrier() {
        for (int more = -2; more <= 12; more++) {
            // Carrier 0 is free from 150 on, carrier 1 from 150 + more on: behind a to b, which began at 110.
            String text = "carriers 2;" + WIDE + "call c d 0 80 9;call d c 0 40 9;call a b 0 " + (10 + more) + " 9;";
            for (String pair : new String[] {"a e", "e b", "a b"}) {
                SatelliteExchange x = Check.loaded(text + "call " + pair + " 0 10 9;");
                Check.due("start of a to b", 110, x.startOf(2));
                Check.due("carrier of " + pair + " with " + more, more < 0 ? 1 : 0, x.carrierOf(3));
                Check.due("start of " + pair + " with " + more, 150 + more, x.startOf(3));
            }
            SatelliteExchange x = Check.loaded(text + "call e f 0 10 9;");
            Check.due("start of another pair with " + more, Math.min(150, 150 + more), x.startOf(3));
        }
    }

    /** A start that is free for its stations, but in the guard behind a burst of others on the same carrier. */
    private static void guardBehindTheSameCarrier() {
        for (int more = -2; more <= 12; more++) {
            // Now a to b stands on carrier 0, which is free from 150 + more on; c to d is done at 150.
            String text = "carriers 2;" + WIDE + "call d c 0 40 9;call c d 0 80 9;call a b 0 " + (10 + more) + " 9;";
            for (String pair : new String[] {"c f", "e d", "c d"}) {
                SatelliteExchange x = Check.loaded(text + "call " + pair + " 0 10 9;");
                Check.due("carrier of a to b", 0, x.carrierOf(2));
                Check.due("carrier of " + pair + " with " + more, more <= 0 ? 0 : 1, x.carrierOf(3));
                Check.due("start of " + pair + " with " + more, 150, x.startOf(3));
            }
        }
    }

    private static void leastStart() {
        SatelliteExchange x = Check.loaded("carriers 2;" + WIDE + "call a b 0 100 9;call b a 0 50 9;call c d 0 5 9;"
                + "call d c 0 30 9;call e f 0 30 9;");
        Check.due("the carrier with the least start", 1, x.carrierOf(2));
        Check.due("its start", 120, x.startOf(2));
        Check.due("then behind it", 155, x.startOf(3));
        Check.due("on the same carrier", 1, x.carrierOf(3));
        Check.due("then the first carrier", 0, x.carrierOf(4));
        Check.due("with the least start", 170, x.startOf(4));
        x = Check.loaded("carriers 2;" + WIDE + "call a b 0 50 9;call b a 0 50 9;call c d 0 5 9;");
        Check.due("of equal starts", 120, x.startOf(2));
        Check.due("the lower carrier", 0, x.carrierOf(2));
    }

    /** Each call passes all those before it, one after the other. */
    private static void behindAllOthers() {
        SatelliteExchange x = Check.loaded(NARROW + "call a b 0 9 9;".repeat(16));
        for (int k = 0; k < 16; k++) {
            Check.due("state of call " + k + " in a row", ACTIVE, x.stateOf(k));
            Check.due("start of call " + k + " in a row", 1 + 10 * k, x.startOf(k));
        }
        x = Check.loaded(NARROW + "call a b 1 9 9;".repeat(15) + "call a b 2 198 9;");
        Check.due("callsToDrop of fifteen", 0x7fff, x.callsToDrop(15));
        Check.due("fitsWithout fifteen", true, x.fitsWithout(15, 0x7fff));
        Check.due("fitsWithout fourteen", false, x.fitsWithout(15, 0x3fff));
    }

    private static void queueOrder() {
        SatelliteExchange x = Check.loaded(NARROW + "call a b 9 198 9;");
        Check.due("an empty queue", NOT_FOUND, x.queuedAt(0));
        Check.due("its length", 0, x.queueLength());
        int[] priorities = {3, 9, 3, 0, 9, 5};
        for (int p : priorities) {
            x.request(0, 1, p, 198, 1);
        }
        int[] due = {2, 5, 6, 1, 3, 4};
        for (int i = 0; i < due.length; i++) {
            Check.due("queuedAt " + i, due[i], x.queuedAt(i));
        }
        Check.due("queueLength", 6, x.queueLength());
        for (int i : new int[] {-1, 6, 7, 16, Integer.MIN_VALUE, Integer.MAX_VALUE}) {
            Check.due("queuedAt " + i, NOT_FOUND, x.queuedAt(i));
        }
        x.release(5);
        Check.due("queuedAt without a released call", 6, x.queuedAt(1));
        Check.due("queueLength without it", 5, x.queueLength());
        x.advance(9);
        Check.due("the first one began", ACTIVE, x.stateOf(2));
        Check.due("queuedAt without it", 6, x.queuedAt(0));
    }

    private static void rowsOfBursts() {
        SatelliteExchange x = Check.loaded("carriers 2;" + WIDE + "call a b 0 30 9;call a c 0 30 2;call a d 0 30 9;"
                + "call d e 0 2000 9;");
        x.advance(2);
        x.request(1, 4, 0, 200, 9);
        x.request(0, 5, 0, 10, 9);
        // On carrier 0: call 0 at 40, call 5 at 100, call 2 at 160; on carrier 1: call 4 at 40.
        int[][] rows = {{0, 5, 2}, {4}};
        int[] used = {50 + 30 + 50, 220};
        for (int c = 0; c < 2; c++) {
            Check.due("callsOn " + c, rows[c].length, x.callsOn(c));
            Check.due("usedSymbols " + c, used[c], x.usedSymbols(c));
            for (int i = 0; i < rows[c].length; i++) {
                Check.due("callAt " + c + ", " + i, rows[c][i], x.callAt(c, i));
            }
            for (int i : new int[] {-1, rows[c].length, 16, Integer.MIN_VALUE, Integer.MAX_VALUE}) {
                Check.due("callAt " + c + ", " + i, NOT_FOUND, x.callAt(c, i));
            }
        }
        x = new SatelliteExchange();
        Check.due("callsOn an empty carrier", 0, x.callsOn(0));
        Check.due("usedSymbols of an empty carrier", 0, x.usedSymbols(0));
        Check.due("callAt an empty carrier", NOT_FOUND, x.callAt(0, 0));
    }

    private static void symbolsOfBursts() {
        SatelliteExchange x = Check.loaded("carriers 2;" + WIDE + "call a b 0 30 9;call c d 0 40 9;call a b 0 30 5;"
                + "call a b 0 2000 9;");
        int[][] first = {{40, 0}, {89, 0}, {39, NOT_FOUND}, {90, NOT_FOUND}, {99, NOT_FOUND}, {100, 2}, {149, 2},
            {150, NOT_FOUND}, {0, NOT_FOUND}, {-1, NOT_FOUND}, {400, NOT_FOUND}, {Integer.MIN_VALUE, NOT_FOUND},
            {Integer.MAX_VALUE, NOT_FOUND}};
        for (int[] one : first) {
            Check.due("callOver 0, " + one[0], one[1], x.callOver(0, one[0]));
        }
        Check.due("callOver 1, 40", 1, x.callOver(1, 40));
        Check.due("callOver 1, 99", 1, x.callOver(1, 99));
        Check.due("callOver 1, 100", NOT_FOUND, x.callOver(1, 100));
        x.advance(5);
        Check.due("callOver of an ended call", NOT_FOUND, x.callOver(0, 100));
    }

    private static void longestFits() {
        SatelliteExchange x = Check.loaded("carriers 2;" + WIDE + "call a b 0 80 9;");
        Check.due("longestFit behind a burst", 390 - 150, x.longestFit(0));
        Check.due("longestFit of an empty carrier, whatever its senders", 350, x.longestFit(1));
        x = Check.loaded(WIDE + "call a b 0 80 2;call a b 0 50 9;call a b 0 30 3;call a b 0 20 9;call a b 0 9 9;");
        // 40..140, 150..220, 230..280, 290..330, 340..369
        Check.due("longestFit at the end", 390 - 379, x.longestFit(0));
        x.release(1);
        Check.due("longestFit between bursts", 70, x.longestFit(0));
        x.release(2);
        Check.due("longestFit between bursts, over two", 130, x.longestFit(0));
        x.release(0);
        Check.due("longestFit before the bursts", 240, x.longestFit(0));
        x.release(4);
        Check.due("longestFit before the bursts still", 240, x.longestFit(0));
        x.release(3);
        Check.due("longestFit of the whole frame", 350, x.longestFit(0));
        x = Check.loaded(WIDE + "call a b 0 330 2;");
        Check.due("longestFit of a full frame", 0, x.longestFit(0));
        x = Check.loaded(WIDE + "call a b 0 320 2;");
        Check.due("longestFit, no room for the guard", 0, x.longestFit(0));
        x = Check.loaded(WIDE + "call a b 0 319 2;");
        Check.due("longestFit of one symbol", 1, x.longestFit(0));
        x = Check.loaded(NARROW + "call a b 0 197 2;");
        Check.due("longestFit of one symbol without guard", 1, x.longestFit(0));
        Check.due("longestFit of a new exchange", 930, new SatelliteExchange().longestFit(0));
    }

    private static void longestFitOfOddFrames() {
        Check.due("no room beside the reference", 0, Check.loaded("set length 200;set reference 500;").longestFit(0));
        Check.due("no room for the guards", 0,
                Check.loaded("set length 500;set reference 100;set guard 200;").longestFit(0));
        Check.due("room for one symbol", 1, Check.loaded("set length 501;set reference 100;set guard 200;").longestFit(0));
        SatelliteExchange x = Check.loaded("set length 200;set reference 500;" + STATIONS + "call a b 0 1 1;");
        Check.due("a call where no burst fits", WAITING, x.stateOf(0));
        Check.due("carriersNeeded where no burst fits", NOT_FOUND, x.carriersNeeded());
        Check.due("callsToDrop where no burst fits", NOT_FOUND, x.callsToDrop(0));
        Check.due("fitsWithout where no burst fits", false, x.fitsWithout(0, -1));
    }

    private static void nextEnds() {
        SatelliteExchange x = Check.loaded(WIDE + "call a b 0 80 7;call a b 0 80 5;call a b 0 80 6;call a b 0 80 1;");
        Check.due("nextEnd", 5, x.nextEnd());
        x.advance(5);
        Check.due("nextEnd behind the first", 6, x.nextEnd());
        x.release(3);
        x.advance(1);
        Check.due("nextEnd of the last", 7, x.nextEnd());
        x.advance(1);
        Check.due("nextEnd without calls", NOT_FOUND, x.nextEnd());
        x.request(0, 1, 0, 1, 9999);
        Check.due("nextEnd above 9999", 10006, x.nextEnd());
        Check.due("nextEnd of a new exchange", NOT_FOUND, new SatelliteExchange().nextEnd());
    }

    private static void fitting() {
        SatelliteExchange x = Check.loaded(NARROW + "call a b 5 49 9;call b c 5 48 9;call c d 5 49 9;call d e 5 49 9;"
                + "call e f 0 98 9;call f a 9 50 9;call a f 9 197 9;");
        // 50, 49, 50, 50 of 199 symbols; waiting: 99, 51, 198
        Check.due("fitsWithout none", false, x.fitsWithout(4, 0));
        Check.due("fitsWithout one", false, x.fitsWithout(4, 1));
        Check.due("fitsWithout two side by side", true, x.fitsWithout(4, 3));
        Check.due("fitsWithout two others", true, x.fitsWithout(4, 6));
        Check.due("fitsWithout two apart", false, x.fitsWithout(4, 5));
        Check.due("waiting calls and bits beyond do not matter", true, x.fitsWithout(4, 3 | 0xfffffff0));
        Check.due("nor do they help", false, x.fitsWithout(4, 0xfffffff0));
        Check.due("fitsWithout all", true, x.fitsWithout(6, -1));
        Check.due("fitsWithout all but one", false, x.fitsWithout(6, 7));
        Check.due("fitsWithout of an active call", false, x.fitsWithout(0, -1));
        x.release(6);
        Check.due("fitsWithout of an ended call", false, x.fitsWithout(6, -1));
        x = Check.loaded("carriers 2;" + NARROW + "call a b 5 198 9;call c d 5 198 9;call a d 0 1 9;call e f 0 1 9;");
        Check.due("fitsWithout: the receiver is busy on the other carrier", false, x.fitsWithout(2, 1));
        Check.due("fitsWithout: the sender is busy on the other carrier", false, x.fitsWithout(2, 2));
        Check.due("fitsWithout both", true, x.fitsWithout(2, 3));
        Check.due("fitsWithout either", true, x.fitsWithout(3, 1));
        Check.due("fitsWithout either", true, x.fitsWithout(3, 2));
    }

    private static void dropping() {
        SatelliteExchange x = Check.loaded(NARROW + "call a b 1 49 9;call b c 1 48 9;call c d 3 49 9;call d e 1 49 9;"
                + "call e f 9 98 9;call f a 9 99 9;call a f 2 98 9;call a f 2 99 9;call a f 1 1 9;call a f 9 197 9;"
                + "call a f 3 197 9;call a f 2 1 9;call a f 9 1999 9;");
        Check.due("callsToDrop, of equal sizes the smallest number", 3, x.callsToDrop(4));
        Check.due("callsToDrop of one symbol more", 12, x.callsToDrop(5));
        Check.due("callsToDrop of lower priority alone", 3, x.callsToDrop(6));
        Check.due("callsToDrop, not sufficient", NOT_FOUND, x.callsToDrop(7));
        Check.due("callsToDrop, equal priorities stay", NOT_FOUND, x.callsToDrop(8));
        Check.due("callsToDrop of all", 15, x.callsToDrop(9));
        Check.due("callsToDrop of all but an equal one", NOT_FOUND, x.callsToDrop(10));
        Check.due("callsToDrop of one", 1, x.callsToDrop(11));
        Check.due("callsToDrop of a call that is too long", NOT_FOUND, x.callsToDrop(12));
        Check.due("callsToDrop of an active call", NOT_FOUND, x.callsToDrop(0));
        x.release(4);
        Check.due("callsToDrop of an ended call", NOT_FOUND, x.callsToDrop(4));
    }

    private static void droppingOverCarriers() {
        String text = "carriers 2;" + NARROW + "call a b 2 198 9;call c d 1 198 9;call a d 5 1 9;call e f 5 1 9;"
                + "call e f 2 1 9;call c f 2 1 9;call e b 5 1 9;";
        SatelliteExchange x = Check.loaded(text);
        Check.due("callsToDrop: sender and receiver", 3, x.callsToDrop(2));
        Check.due("callsToDrop: either carrier", 1, x.callsToDrop(3));
        Check.due("callsToDrop: the one of lower priority", 2, x.callsToDrop(4));
        Check.due("callsToDrop: the one with the same sender", 2, x.callsToDrop(5));
        Check.due("callsToDrop: the one with the same receiver", 1, x.callsToDrop(6));
        // One call of 99 on carrier 1 is fewer than two of 50 on carrier 0; that of the same pair has another place.
        x = Check.loaded("carriers 2;" + NARROW + "call a b 0 49 9;call b a 0 98 9;call c d 0 49 9;call d c 0 98 9;"
                + "call e f 0 98 9;call e f 9 98 9;");
        Check.due("carrier of call 2", 0, x.carrierOf(2));
        Check.due("carrier of call 3", 1, x.carrierOf(3));
        Check.due("carrier of call 4", 0, x.carrierOf(4));
        Check.due("callsToDrop: one rather than two", 2, x.callsToDrop(5));
    }

    private static void carriers() {
        Check.due("carriersNeeded of a new exchange", 1, new SatelliteExchange().carriersNeeded());
        String[] calls = {"call a b 0 198 9;", "call b c 0 198 9;", "call c d 0 198 9;", "call d e 0 198 9;",
            "call e f 0 198 9;"};
        int[] due = {1, 2, 3, 4, NOT_FOUND};
        String text = NARROW;
        for (int i = 0; i < calls.length; i++) {
            text += calls[i];
            for (int n = 1; n <= 4; n++) {
                SatelliteExchange x = Check.loaded("carriers " + n + ";" + text);
                Check.due("carriersNeeded by " + (i + 1) + " with " + n, due[i], x.carriersNeeded());
            }
        }
        SatelliteExchange x = Check.loaded(NARROW + "call a b 0 198 9;call a c 0 198 9;");
        Check.due("carriersNeeded when a sender is too busy", NOT_FOUND, x.carriersNeeded());
        x.release(0);
        Check.due("carriersNeeded when one ended", 1, x.carriersNeeded());
        x.release(1);
        Check.due("carriersNeeded when no call is left", 1, x.carriersNeeded());
    }

    private static void carriersAnew() {
        // In the order of the request they fit on two carriers, in the order of the queue not.
        SatelliteExchange x = Check.loaded("carriers 2;" + NARROW
                + "call a b 9 116 9;call b c 1 116 9;call c d 8 77 9;call d a 8 77 9;");
        Check.due("all calls are active", 0, x.queueLength());
        String before = Check.picture(x);
        Check.due("carriersNeeded in the order of the queue", 3, x.carriersNeeded());
        Check.unchanged("carriersNeeded", before, x);
    }

    /** A waiting call of a higher priority comes first, as if the active one were waiting too. */
    private static void carriersAnewWithWaitingCalls() {
        SatelliteExchange x = Check.loaded(NARROW + "call a b 0 119 9;call b c 9 79 9;call c d 9 79 9;");
        Check.due("the first call is active", ACTIVE, x.stateOf(0));
        Check.due("the others wait", 2, x.queueLength());
        Check.due("carriersNeeded with the waiting ones first", 3, x.carriersNeeded());
        x = Check.loaded(NARROW + "call a b 9 119 9;call b c 0 79 9;call c d 0 79 9;");
        Check.due("carriersNeeded with the active one first", 2, x.carriersNeeded());
        // Where their bursts stand now leaves no room, but anew they all fit.
        x = Check.loaded(NARROW + "call a b 5 49 9;call a b 5 49 9;call a b 5 49 9;call c d 0 80 9;");
        x.release(1);
        Check.due("the last call waits", WAITING, x.stateOf(3));
        Check.due("carriersNeeded of calls that fit anew", 1, x.carriersNeeded());
    }

    private static void earliestStarts() {
        // A waiting call never has a start: whatever releases a burst serves the queue as well.
        SatelliteExchange x = Check.loaded("carriers 2;" + NARROW + "call a b 5 198 9;call c d 5 50 9;call a e 5 1 9;");
        Check.due("earliestStart of a waiting call", NOT_FOUND, x.earliestStart(2, 0));
        Check.due("earliestStart on the other carrier: the sender is busy", NOT_FOUND, x.earliestStart(2, 1));
        Check.due("earliestStart of an active call", NOT_FOUND, x.earliestStart(1, 1));
        x.release(1);
        Check.due("earliestStart of an ended call", NOT_FOUND, x.earliestStart(1, 1));
    }
}
