/** CALLS and promises 28 to 37, 46 and 47: the sentences that name a bound, each with a test of its own. */
public final class CarrierBoundsTest {
    private static final int NOT_FOUND = -1;
    private static final int WAITING = 0, ACTIVE = 1;
    private static final String SIX = "station a 0 0 0 0;station b 0 0 0 0;station c 0 0 0 0;station d 0 0 0 0;"
            + "station e 0 0 0 0;station f 0 0 0 0;";
    /** Bursts stand from 1 to 200, side by side; each is 1 longer than its call. */
    private static final String NARROW = "set length 200;set guard 0;set reference 1;set preamble 1;" + SIX;
    /** Bursts stand from 40 to 390 with 10 between them; each is 20 longer than its call. */
    private static final String WIDE = "set length 400;set guard 10;set reference 30;" + SIX;

    private CarrierBoundsTest() {
    }

    public static void main(String[] args) {
        indexes();
        callAndCarrier();
        wholeFrames();
        gapsOfOneCarrier();
        gapsOfSendersAndReceivers();
        gapsBeforeABurst();
        leastStarts();
        queues();
        fullQueue();
        callsAndSymbols();
        rowOfSixteen();
        symbolsOfABurst();
        longestFits();
        longestFitsWithoutRoom();
        longestFitOfACarrierAlone();
        nextEnds();
        fitsWithoutAtItsBounds();
        fitsWithoutSomeCalls();
        priorityToDrop();
        fewestToDrop();
        smallestNumberToDrop();
        nothingToDrop();
        startsBehindWhatStays();
        carriersNeeded();
        carriersNeededByTheLiving();
        earliestStarts();
        Check.end();
    }

    private static void indexes() {
        for (int n = 1; n <= 4; n++) {
            SatelliteExchange x = Check.loaded("carriers " + n + ";" + NARROW);
            for (int c = 0; c < n; c++) {
                Check.due("callsOn " + c + " of " + n, 0, x.callsOn(c));
                Check.due("usedSymbols " + c + " of " + n, 0, x.usedSymbols(c));
                Check.due("callAt " + c + " of " + n, NOT_FOUND, x.callAt(c, 0));
                Check.due("callOver " + c + " of " + n, NOT_FOUND, x.callOver(c, 0));
                Check.due("longestFit " + c + " of " + n, 199, x.longestFit(c));
            }
            for (int c : new int[] {-1, n, n + 1, 4, 5, Integer.MIN_VALUE, Integer.MAX_VALUE}) {
                Check.outOfBounds("callsOn " + c + " of " + n, () -> x.callsOn(c));
                Check.outOfBounds("usedSymbols " + c + " of " + n, () -> x.usedSymbols(c));
                Check.outOfBounds("callAt " + c + " of " + n, () -> x.callAt(c, 0));
                Check.outOfBounds("callAt no place, " + c + " of " + n, () -> x.callAt(c, -1));
                Check.outOfBounds("callOver " + c + " of " + n, () -> x.callOver(c, 0));
                Check.outOfBounds("callOver no symbol, " + c + " of " + n, () -> x.callOver(c, -1));
                Check.outOfBounds("longestFit " + c + " of " + n, () -> x.longestFit(c));
            }
        }
    }

    private static void callAndCarrier() {
        for (int n : new int[] {0, 1, 15, 16}) {
            SatelliteExchange x = Check.loaded("carriers 2;" + NARROW + "call a b 5 199 9;".repeat(n));
            for (int k = 0; k < n; k++) {
                Check.due("earliestStart of " + k + " of " + n, NOT_FOUND, x.earliestStart(k, 1));
                Check.due("fitsWithout of " + k + " of " + n, false, x.fitsWithout(k, -1));
                Check.due("callsToDrop of " + k + " of " + n, NOT_FOUND, x.callsToDrop(k));
                for (int c : new int[] {-1, 2, 3, 4, Integer.MIN_VALUE, Integer.MAX_VALUE}) {
                    Check.outOfBounds("earliestStart of " + k + " on " + c, () -> x.earliestStart(0, c));
                }
            }
            for (int k : new int[] {-1, n, n + 1, 16, 17, Integer.MIN_VALUE, Integer.MAX_VALUE}) {
                Check.outOfBounds("earliestStart of " + k + " of " + n, () -> x.earliestStart(k, 1));
                Check.outOfBounds("earliestStart of " + k + " of " + n + " nowhere", () -> x.earliestStart(k, 2));
                Check.outOfBounds("fitsWithout of " + k + " of " + n, () -> x.fitsWithout(k, -1) ? 1 : 0);
                Check.outOfBounds("callsToDrop of " + k + " of " + n, () -> x.callsToDrop(k));
            }
        }
    }

    /** The start is REFERENCE + GUARD at least; the burst and GUARD symbols behind it end with the frame. */
    private static void wholeFrames() {
        int[][] worlds = {{200, 0, 1, 1}, {200, 1, 1, 1}, {200, 0, 98, 1}, {400, 10, 30, 20}, {1000, 200, 500, 20},
            {1000, 200, 500, 99}, {1001, 200, 500, 100}, {2300, 3, 70, 200}};
        for (int[] world : worlds) {
            String text = "set length " + world[0] + ";set guard " + world[1] + ";set reference " + world[2]
                    + ";set preamble " + world[3] + ";" + SIX;
            int longest = world[0] - 2 * world[1] - world[2] - world[3];
            SatelliteExchange x = Check.loaded(text);
            Check.due("longestFit", longest + world[3], x.longestFit(0));
            if (longest > 2000) {
                continue;
            }
            Check.due("a call", 0, x.request(0, 1, 0, longest + 1, 1));
            Check.due("one symbol too many", WAITING, x.stateOf(0));
            x.request(2, 3, 0, longest, 1);
            Check.due("just as many symbols as fit", ACTIVE, x.stateOf(1));
            Check.due("its start", world[1] + world[2], x.startOf(1));
            x = Check.loaded(text);
            if (longest > 1) {
                x.request(0, 1, 0, longest - 1, 1);
                Check.due("one symbol less", world[1] + world[2], x.startOf(0));
                x.request(2, 3, 0, 1, 1);
                Check.due("nothing fits behind it", WAITING, x.stateOf(1));
            }
        }
    }

    private static void gapsOfOneCarrier() {
        for (int guard : new int[] {0, 1, 10}) {
            for (int more = -1; more <= 1; more++) {
                SatelliteExchange x = Check.loaded("set length 400;set guard " + guard + ";" + SIX
                        + "call a b 0 30 9;call c d 0 30 9;call e f 0 30 9;");
                int second = 100 + 2 * guard;
                Check.due("start of the first", 50 + guard, x.startOf(0));
                Check.due("start of the second", second, x.startOf(1));
                Check.due("start of the third", second + 50 + guard, x.startOf(2));
                x.release(1);
                x.request(0, 1, 0, 30 + more, 9);
                int due = more <= 0 ? second : second + 100 + 2 * guard;
                Check.due("start in a gap of 50 with " + more + " and guard " + guard, due, x.startOf(3));
            }
        }
    }

    private static void gapsOfSendersAndReceivers() {
        for (int guard : new int[] {0, 10}) {
            String text = "carriers 2;set guard " + guard + ";" + SIX + "call a b 0 100 9;";
            int first = 50 + guard;
            int behind = first + 120 + guard;
            // The same sender, the same receiver, both; the sender as receiver, the other way round; neither.
            int[][] pairs = {{0, 2}, {2, 1}, {0, 1}, {2, 0}, {1, 2}, {1, 0}, {2, 3}};
            int[][] due = {{0, behind}, {0, behind}, {0, behind}, {1, first}, {1, first}, {1, first}, {1, first}};
            for (int i = 0; i < pairs.length; i++) {
                SatelliteExchange x = Check.loaded(text);
                x.request(pairs[i][0], pairs[i][1], 0, 10, 9);
                String which = "from " + pairs[i][0] + " to " + pairs[i][1] + " with guard " + guard;
                Check.due("carrier " + which, due[i][0], x.carrierOf(1));
                Check.due("start " + which, due[i][1], x.startOf(1));
            }
            // Carrier 1 is free, but the sender is not, nor the receiver: the tie goes to carrier 0, the next one not.
            SatelliteExchange x = Check.loaded(text + "call a c 0 100 9;call a d 0 10 9;call e c 0 10 9;call f c 0 10 9;");
            Check.due("third call of a sender: start", behind + 120 + guard, x.startOf(2));
            Check.due("third call of a sender: carrier", 0, x.carrierOf(2));
            Check.due("another sender to a receiver that is busy later: start", first, x.startOf(3));
            Check.due("its carrier", 1, x.carrierOf(3));
            Check.due("the next one to it: start", first + 30 + guard, x.startOf(4));
            Check.due("the next one to it: carrier", 1, x.carrierOf(4));
        }
    }

    /** The guard counts before a burst of the same sender on another carrier too. */
    private static void gapsBeforeABurst() {
        for (int more = -1; more <= 1; more++) {
            for (int pair = 0; pair < 3; pair++) {
                SatelliteExchange x = Check.loaded("carriers 2;" + SIX + "call c d 0 100 9;call d c 0 300 9;call a b 0 100 9;"
                        + "call e f 0 400 9;");
                // On carrier 0: c to d from 60 to 180, a to b from 190 to 310, e to f from 320 to 740; on carrier 1:
                // d to c from 60 to 380.
                Check.due("start of a to b", 190, x.startOf(2));
                x.release(1);
                int sender = pair == 1 ? 4 : 0;
                int receiver = pair == 0 ? 5 : 1;
                x.request(sender, receiver, 0, 100 + more, 9);
                // One symbol too long for the gap, the third pair stands behind a to b, the others behind e to f too.
                Check.due("carrier of " + sender + " to " + receiver, more <= 0 || pair == 2 ? 1 : 0, x.carrierOf(4));
                Check.due("start of " + sender + " to " + receiver + " with " + more,
                        more <= 0 ? 60 : pair == 2 ? 320 : 750, x.startOf(4));
            }
        }
    }

    private static void leastStarts() {
        SatelliteExchange x = Check.loaded("carriers 4;" + WIDE + "call a b 0 10 9;call b a 0 10 9;call c d 0 9 9;"
                + "call d c 0 10 9;call e f 0 5 9;call f e 0 5 9;");
        int[] carriers = {0, 1, 2, 3, 2, 0};
        int[] starts = {40, 40, 40, 40, 79, 80};
        for (int k = 0; k < 6; k++) {
            Check.due("carrier of " + k, carriers[k], x.carrierOf(k));
            Check.due("start of " + k, starts[k], x.startOf(k));
        }
        x.release(3);
        x.request(3, 2, 0, 300, 9);
        Check.due("the last carrier", 3, x.carrierOf(6));
        Check.due("its start", 40, x.startOf(6));
    }

    private static void queues() {
        SatelliteExchange x = new SatelliteExchange();
        Check.due("queueLength of a new exchange", 0, x.queueLength());
        for (int position : new int[] {-1, 0, 1, Integer.MIN_VALUE, Integer.MAX_VALUE}) {
            Check.due("queuedAt " + position + " of a new exchange", NOT_FOUND, x.queuedAt(position));
        }
        x = Check.loaded(NARROW + "call a b 0 198 9;");
        Check.due("queuedAt with an active call", NOT_FOUND, x.queuedAt(0));
        x.request(0, 1, 0, 198, 9);
        Check.due("queuedAt 0 of one", 1, x.queuedAt(0));
        Check.due("queuedAt 1 of one", NOT_FOUND, x.queuedAt(1));
        Check.due("queueLength of one", 1, x.queueLength());
        x.request(0, 1, 9, 198, 9);
        x.request(0, 1, 0, 198, 9);
        x.request(0, 1, 9, 198, 9);
        x.request(0, 1, 1, 198, 9);
        int[] due = {2, 4, 5, 1, 3, NOT_FOUND};
        for (int i = 0; i < due.length; i++) {
            Check.due("queuedAt " + i, due[i], x.queuedAt(i));
        }
        Check.due("queuedAt -1", NOT_FOUND, x.queuedAt(-1));
        x.release(2);
        Check.due("queuedAt 0 without the first", 4, x.queuedAt(0));
        Check.due("queuedAt 4 without the first", NOT_FOUND, x.queuedAt(4));
        Check.due("queueLength without the first", 4, x.queueLength());
    }

    private static void fullQueue() {
        StringBuilder text = new StringBuilder(NARROW);
        for (int k = 0; k < 16; k++) {
            text.append("call a b ").append(k % 8).append(" 199 9;");
        }
        SatelliteExchange x = Check.loaded(text.toString());
        Check.due("queueLength of sixteen", 16, x.queueLength());
        for (int i = 0; i < 16; i++) {
            Check.due("queuedAt " + i + " of sixteen", 7 - i / 2 + (i % 2) * 8, x.queuedAt(i));
        }
        for (int i : new int[] {-1, 16, 17, Integer.MIN_VALUE, Integer.MAX_VALUE}) {
            Check.due("queuedAt " + i + " of sixteen", NOT_FOUND, x.queuedAt(i));
        }
        x.release(7);
        Check.due("queueLength of fifteen", 15, x.queueLength());
        Check.due("queuedAt 14 of fifteen", 8, x.queuedAt(14));
        Check.due("queuedAt 15 of fifteen", NOT_FOUND, x.queuedAt(15));
    }

    private static void callsAndSymbols() {
        SatelliteExchange x = Check.loaded("carriers 2;" + WIDE);
        int[][] due = {{0, 0, 0, 0}, {1, 21, 0, 0}, {1, 21, 1, 319}, {2, 320, 1, 319}, {2, 320, 1, 319}};
        int[][] requests = {{0, 1, 1}, {2, 3, 299}, {4, 5, 279}, {4, 5, 300}};
        for (int i = 0; i < due.length; i++) {
            Check.due("callsOn 0 behind " + i, due[i][0], x.callsOn(0));
            Check.due("usedSymbols of 0 behind " + i, due[i][1], x.usedSymbols(0));
            Check.due("callsOn 1 behind " + i, due[i][2], x.callsOn(1));
            Check.due("usedSymbols of 1 behind " + i, due[i][3], x.usedSymbols(1));
            if (i < requests.length) {
                x.request(requests[i][0], requests[i][1], 0, requests[i][2], 9 - i);
            }
        }
        Check.due("the last one waits", WAITING, x.stateOf(3));
        x.release(3);
        x.advance(7);
        Check.due("callsOn 0 when one has ended", 1, x.callsOn(0));
        Check.due("usedSymbols of 0 when one has ended", 21, x.usedSymbols(0));
        x.release(0);
        Check.due("callsOn 0 when all have ended", 0, x.callsOn(0));
        Check.due("usedSymbols of 0 when all have ended", 0, x.usedSymbols(0));
        Check.due("callsOn 1 still", 1, x.callsOn(1));
        x = Check.loaded(NARROW + "call a b 0 198 9;");
        Check.due("usedSymbols of a full frame", 199, x.usedSymbols(0));
    }

    private static void rowOfSixteen() {
        SatelliteExchange x = Check.loaded(NARROW + "call a b 0 9 9;".repeat(15));
        x.release(3);
        x.request(0, 1, 0, 9, 9);
        Check.due("callsOn of fifteen", 15, x.callsOn(0));
        for (int i = 0; i < 15; i++) {
            Check.due("callAt " + i + " of fifteen", i == 3 ? 15 : i, x.callAt(0, i));
        }
        Check.due("callAt 15 of fifteen", NOT_FOUND, x.callAt(0, 15));
        x.release(0);
        Check.due("callAt 0 without the first", 1, x.callAt(0, 0));
        Check.due("callAt 13 without the first", 14, x.callAt(0, 13));
        Check.due("callAt 14 without the first", NOT_FOUND, x.callAt(0, 14));
        x = Check.loaded(NARROW + "call a b 0 9 9;".repeat(16));
        Check.due("callAt 15 of sixteen", 15, x.callAt(0, 15));
        for (int i : new int[] {-1, 16, 17, Integer.MIN_VALUE, Integer.MAX_VALUE}) {
            Check.due("callAt " + i + " of sixteen", NOT_FOUND, x.callAt(0, i));
        }
        Check.due("callsOn of sixteen", 16, x.callsOn(0));
    }

    private static void symbolsOfABurst() {
        SatelliteExchange x = Check.loaded("carriers 2;" + NARROW + "call a b 0 9 9;call a c 0 9 9;call d e 0 1 9;"
                + "call a f 0 178 9;call a b 0 1 9;");
        int[][] due = {{0, NOT_FOUND}, {1, 0}, {10, 0}, {11, 1}, {20, 1}, {21, 3}, {199, 3}, {200, NOT_FOUND},
            {-1, NOT_FOUND}, {Integer.MIN_VALUE, NOT_FOUND}, {Integer.MAX_VALUE, NOT_FOUND}};
        for (int[] one : due) {
            Check.due("callOver 0, " + one[0], one[1], x.callOver(0, one[0]));
        }
        int[][] other = {{0, NOT_FOUND}, {1, 2}, {2, 2}, {3, NOT_FOUND}, {11, NOT_FOUND}};
        for (int[] one : other) {
            Check.due("callOver 1, " + one[0], one[1], x.callOver(1, one[0]));
        }
        x = Check.loaded(WIDE + "call a b 0 10 9;call c d 0 10 9;");
        int[][] guarded = {{39, NOT_FOUND}, {40, 0}, {69, 0}, {70, NOT_FOUND}, {79, NOT_FOUND}, {80, 1}, {109, 1},
            {110, NOT_FOUND}, {399, NOT_FOUND}, {400, NOT_FOUND}};
        for (int[] one : guarded) {
            Check.due("callOver with guards, " + one[0], one[1], x.callOver(0, one[0]));
        }
        x.release(0);
        Check.due("callOver where a call has ended", NOT_FOUND, x.callOver(0, 40));
    }

    private static void longestFits() {
        // What is left behind a burst: two symbols more than the guard, one more, none, and less.
        int[][] due = {{317, 3}, {318, 2}, {319, 1}, {320, 0}, {321, 0}, {329, 0}, {330, 0}};
        for (int[] one : due) {
            SatelliteExchange x = Check.loaded(WIDE + "call a b 0 " + one[0] + " 9;");
            Check.due("longestFit behind " + one[0] + " symbols", one[1], x.longestFit(0));
            Check.due("the call is active", ACTIVE, x.stateOf(0));
        }
        // What is left between two bursts, and before the first one.
        for (int symbols : new int[] {1, 2, 50}) {
            SatelliteExchange x = Check.loaded(WIDE + "call a b 0 " + symbols + " 9;call c d 0 " + symbols
                    + " 9;call e f 0 " + (270 - 2 * symbols) + " 9;");
            Check.due("longestFit of a full frame", 0, x.longestFit(0));
            x.release(1);
            Check.due("longestFit between two bursts", 20 + symbols, x.longestFit(0));
            x.release(0);
            Check.due("longestFit before the first one", 50 + 2 * symbols, x.longestFit(0));
            x.release(2);
            Check.due("longestFit of the whole frame", 350, x.longestFit(0));
        }
        Check.due("longestFit of a new exchange", 930, new SatelliteExchange().longestFit(0));
        SatelliteExchange x = Check.loaded("set length 5000;set guard 0;set reference 1;");
        Check.due("longestFit of whatever length", 4999, x.longestFit(0));
    }

    private static void longestFitsWithoutRoom() {
        int[][] worlds = {{200, 0, 200, 0}, {201, 0, 200, 1}, {200, 0, 201, 0}, {200, 0, 199, 1}, {200, 0, 500, 0},
            {500, 200, 99, 1}, {500, 200, 100, 0}, {500, 200, 101, 0}, {200, 200, 500, 0}, {5000, 200, 500, 4100}};
        for (int[] world : worlds) {
            SatelliteExchange x = Check.loaded("set length " + world[0] + ";set guard " + world[1] + ";set reference "
                    + world[2] + ";set preamble 1;" + SIX + "call a b 0 1 9;");
            boolean room = world[3] > 1;
            Check.due("state with " + world[3] + " symbols of room", room ? ACTIVE : WAITING, x.stateOf(0));
            if (!room) {
                Check.due("longestFit of " + world[0] + ", " + world[1] + ", " + world[2], world[3], x.longestFit(0));
                Check.due("earliestStart without room", NOT_FOUND, x.earliestStart(0, 0));
                Check.due("carriersNeeded without room", NOT_FOUND, x.carriersNeeded());
            }
        }
    }

    private static void longestFitOfACarrierAlone() {
        SatelliteExchange x = Check.loaded("carriers 2;" + WIDE + "call a b 0 330 9;call b a 0 100 9;");
        Check.due("longestFit of a full carrier", 0, x.longestFit(0));
        Check.due("longestFit beside it", 390 - 170, x.longestFit(1));
        x.release(1);
        Check.due("longestFit of an empty carrier", 350, x.longestFit(1));
        x.request(0, 2, 0, 10, 9);
        Check.due("though its sender cannot use it", WAITING, x.stateOf(2));
        Check.due("longestFit with a waiting call", 350, x.longestFit(1));
    }

    private static void nextEnds() {
        Check.due("nextEnd of a new exchange", NOT_FOUND, new SatelliteExchange().nextEnd());
        SatelliteExchange x = Check.loaded(NARROW + "call a b 0 199 1;");
        Check.due("nextEnd with a waiting call", NOT_FOUND, x.nextEnd());
        x.request(0, 1, 0, 9, 5);
        Check.due("nextEnd of one call", 5, x.nextEnd());
        x.request(0, 1, 0, 9, 4);
        Check.due("nextEnd of an earlier one", 4, x.nextEnd());
        x.request(0, 1, 0, 9, 9999);
        x.request(0, 1, 0, 9, 4);
        Check.due("nextEnd of two alike", 4, x.nextEnd());
        x.advance(3);
        Check.due("nextEnd in the frame before", 4, x.nextEnd());
        x.advance(1);
        Check.due("nextEnd in the frame of the end", 5, x.nextEnd());
        x.release(1);
        Check.due("nextEnd when one was released", 9999, x.nextEnd());
        x.request(0, 1, 0, 9, 9999);
        x.release(3);
        Check.due("nextEnd above 9999", 10003, x.nextEnd());
        x.release(5);
        Check.due("nextEnd when none is left", NOT_FOUND, x.nextEnd());
    }

    private static void fitsWithoutAtItsBounds() {
        SatelliteExchange x = Check.loaded(NARROW + "call a b 5 9 9;".repeat(14) + "call c d 5 58 9;call e f 5 199 9;");
        Check.due("a call that never fits", false, x.fitsWithout(15, -1));
        // Fourteen bursts from 1 to 141, the fifteenth from 141 to 200.
        x = Check.loaded(NARROW + "call a b 5 9 9;".repeat(14) + "call c d 5 58 9;call e f 5 58 9;");
        Check.due("without none", false, x.fitsWithout(15, 0));
        Check.due("without the last active call", true, x.fitsWithout(15, 1 << 14));
        Check.due("without itself", false, x.fitsWithout(15, 1 << 15));
        Check.due("without all but the last active call", true, x.fitsWithout(15, 0x3fff));
        Check.due("without six of the others", true, x.fitsWithout(15, 0x3f));
        Check.due("without five of the others", false, x.fitsWithout(15, 0x1f));
        Check.due("without six that stand apart", false, x.fitsWithout(15, 0x5f));
        Check.due("bits of no calls", false, x.fitsWithout(15, 0xffff0000));
        Check.due("the sign bit", false, x.fitsWithout(15, Integer.MIN_VALUE));
        Check.due("all bits", true, x.fitsWithout(15, -1));
        Check.due("an active call", false, x.fitsWithout(14, -1));
        Check.due("an active call without none", false, x.fitsWithout(0, 0));
        x.release(15);
        Check.due("a call that was released", false, x.fitsWithout(15, -1));
        x.release(0);
        Check.due("a call that has ended", false, x.fitsWithout(0, -1));
    }

    private static void fitsWithoutSomeCalls() {
        // Side by side from 40 to 390: 50, 60, 70 and 140 symbols with 10 between them.
        String text = WIDE + "call a b 5 30 9;call b c 5 40 9;call c d 5 50 9;call d e 5 120 9;";
        int[][] due = {{30, 1, 1}, {31, 1, 0}, {40, 2, 1}, {41, 2, 0}, {100, 3, 1}, {101, 3, 0}, {120, 6, 1},
            {121, 6, 0}, {120, 8, 1}, {121, 8, 0}, {180, 7, 1}, {181, 7, 0}, {200, 12, 1}, {201, 12, 0}, {50, 5, 1},
            {51, 5, 0}, {270, 14, 1}, {271, 14, 0}, {330, 15, 1}, {331, 15, 0}};
        for (int[] one : due) {
            SatelliteExchange x = Check.loaded(text + "call e f 5 " + one[0] + " 9;");
            Check.due("the call waits", WAITING, x.stateOf(4));
            Check.due("fitsWithout " + one[1] + " with " + one[0] + " symbols", one[2] == 1, x.fitsWithout(4, one[1]));
        }
    }

    /** A lower priority by one is enough, an equal one is not. */
    private static void priorityToDrop() {
        for (int other = 0; other <= 9; other += other == 0 ? 3 : other == 6 ? 3 : 1) {
            for (int own = 0; own <= 9; own++) {
                SatelliteExchange x = Check.loaded(NARROW + "call a b " + other + " 198 9;call c d " + own + " 198 9;");
                Check.due("callsToDrop of " + own + " with " + other, other < own ? 1 : NOT_FOUND, x.callsToDrop(1));
                Check.due("callsToDrop of the active one", NOT_FOUND, x.callsToDrop(0));
            }
        }
        SatelliteExchange x = Check.loaded(NARROW + "call a b 0 9 9;".repeat(14) + "call c d 8 58 9;call e f 9 58 9;");
        Check.due("callsToDrop of the last call", 1 << 14, x.callsToDrop(15));
        x.release(15);
        Check.due("callsToDrop of a released call", NOT_FOUND, x.callsToDrop(15));
    }

    private static void fewestToDrop() {
        // One of 99 symbols rather than two of 50, which have the smaller number.
        SatelliteExchange x = Check.loaded(NARROW + "call a b 1 49 9;call a b 1 49 9;call a b 1 98 9;call c d 2 98 9;"
                + "call c d 2 99 9;call c d 2 48 9;call c d 2 49 9;call c d 2 50 9;call c d 2 148 9;call c d 2 149 9;");
        int[] due = {4, 3, 1, 1, 4, 6, 7};
        for (int i = 0; i < due.length; i++) {
            Check.due("callsToDrop of " + (3 + i), due[i], x.callsToDrop(3 + i));
        }
        x = Check.loaded("carriers 2;" + NARROW + "call a b 1 198 9;call b a 1 198 9;call a c 2 1 9;call c b 2 1 9;"
                + "call b d 2 1 9;call d a 2 1 9;call c d 2 1 9;call a b 2 1 9;call b a 2 198 9;");
        // A call of the same sender or receiver is in the way on both carriers, that of the same carrier on it alone.
        int[] over = {1, 1, 2, 2, 1, 1, 2};
        for (int i = 0; i < over.length; i++) {
            Check.due("callsToDrop over two carriers of " + (2 + i), over[i], x.callsToDrop(2 + i));
        }
        x = Check.loaded("carriers 2;" + NARROW + "call a b 1 198 9;call c d 1 198 9;call a d 2 1 9;call c b 2 1 9;");
        Check.due("callsToDrop when sender and receiver are busy", 3, x.callsToDrop(2));
        Check.due("callsToDrop when receiver and sender are busy", 3, x.callsToDrop(3));
    }

    private static void smallestNumberToDrop() {
        // The burst of the smaller number stands behind, or on the later carrier.
        SatelliteExchange x = Check.loaded(NARROW + "call a b 1 99 9;call a b 1 98 9;");
        x.release(0);
        x.request(0, 1, 1, 99, 9);
        x.request(2, 3, 2, 98, 9);
        Check.due("start of the greater number", 1, x.startOf(2));
        Check.due("callsToDrop: the burst behind has the smaller number", 2, x.callsToDrop(3));
        x = Check.loaded("carriers 2;" + NARROW + "call a b 1 198 9;call b a 1 198 9;");
        x.release(0);
        x.request(0, 1, 1, 198, 9);
        x.request(2, 3, 2, 198, 9);
        Check.due("carrier of the greater number", 0, x.carrierOf(2));
        Check.due("callsToDrop: the later carrier has the smaller number", 2, x.callsToDrop(3));
        x = Check.loaded(NARROW + "call a b 1 48 9;call a b 1 49 9;call a b 1 49 9;call a b 1 49 9;");
        x.release(1);
        x.request(0, 1, 1, 49, 9);
        x.request(2, 3, 2, 98, 9);
        // From left to right: 0, 4, 2, 3. The pairs of 100 symbols are 4 and 2, 2 and 3.
        Check.due("callsToDrop of a pair", 12, x.callsToDrop(5));
        x = Check.loaded(NARROW + "call a b 1 49 9;call a b 1 48 9;call a b 1 49 9;call a b 1 49 9;call c d 2 49 9;");
        Check.due("callsToDrop: the first is the smallest", 1, x.callsToDrop(4));
    }

    private static void nothingToDrop() {
        SatelliteExchange x = Check.loaded(NARROW + "call a b 1 98 9;call a b 5 98 9;call c d 5 98 9;call c d 5 99 9;"
                + "call c d 6 99 9;call c d 6 197 9;call c d 6 198 9;call c d 9 199 9;call c d 1 1 9;call c d 2 98 9;");
        int[] due = {1, NOT_FOUND, 2, 3, 3, NOT_FOUND, NOT_FOUND, 1};
        for (int i = 0; i < due.length; i++) {
            Check.due("callsToDrop of " + (2 + i), due[i], x.callsToDrop(2 + i));
        }
        String before = Check.picture(x);
        x.callsToDrop(2);
        x.fitsWithout(2, -1);
        Check.unchanged("callsToDrop and fitsWithout", before, x);
    }

    /** The least start may be just behind a call that stays, be it the first call or the last. */
    private static void startsBehindWhatStays() {
        SatelliteExchange x = Check.loaded(NARROW + "call a b 9 48 9;call a b 1 49 9;call a b 1 49 9;call a b 9 49 9;"
                + "call c d 5 49 9;call c d 5 50 9;call c d 5 99 9;call c d 5 100 9;");
        int[] due = {2, 6, 6, NOT_FOUND};
        for (int i = 0; i < due.length; i++) {
            Check.due("callsToDrop between calls that stay, of " + (4 + i), due[i], x.callsToDrop(4 + i));
        }
        x = Check.loaded(NARROW + "call a b 1 48 9;call a b 9 49 9;call a b 1 49 9;call a b 1 49 9;call c d 5 48 9;"
                + "call c d 5 49 9;call c d 5 99 9;call c d 5 100 9;");
        int[] behind = {1, 4, 12, NOT_FOUND};
        for (int i = 0; i < behind.length; i++) {
            Check.due("callsToDrop around a call that stays, of " + (4 + i), behind[i], x.callsToDrop(4 + i));
        }
    }

    private static void carriersNeeded() {
        Check.due("carriersNeeded of a new exchange", 1, new SatelliteExchange().carriersNeeded());
        String[] pairs = {"a b", "b c", "c d", "d e", "e f"};
        StringBuilder text = new StringBuilder(NARROW);
        for (int n = 0; n <= 5; n++) {
            for (int carriers : new int[] {1, 4}) {
                SatelliteExchange x = Check.loaded("carriers " + carriers + ";" + text);
                int due = n == 0 ? 1 : n <= 4 ? n : NOT_FOUND;
                Check.due("carriersNeeded by " + n + " with " + carriers, due, x.carriersNeeded());
                Check.due("the carriers stay", carriers, x.carrierCount());
                Check.due("the queue stays", Math.max(0, n - carriers), x.queueLength());
            }
            text.append("call ").append(pairs[n % 5]).append(" 0 198 9;");
        }
        SatelliteExchange x = Check.loaded(NARROW + "call a b 0 199 9;");
        Check.due("carriersNeeded by a call that never fits", NOT_FOUND, x.carriersNeeded());
        Check.due("carriersNeeded by two of a sender", NOT_FOUND,
                Check.loaded(NARROW + "call a b 0 198 9;call a c 0 1 9;").carriersNeeded());
        Check.due("carriersNeeded by two of a sender that fit", 1,
                Check.loaded("carriers 4;" + NARROW + "call a b 0 98 9;call a c 0 99 9;").carriersNeeded());
    }

    private static void carriersNeededByTheLiving() {
        SatelliteExchange x = Check.loaded("carriers 4;" + NARROW + "call a b 0 198 9;call b c 0 198 2;call c d 0 198 9;"
                + "call d e 0 198 9;call a b 0 199 9;");
        Check.due("carriersNeeded with one that never fits", NOT_FOUND, x.carriersNeeded());
        x.release(4);
        Check.due("carriersNeeded when a waiting call was released", 4, x.carriersNeeded());
        x.advance(2);
        Check.due("carriersNeeded when one has ended", 3, x.carriersNeeded());
        x.release(0);
        Check.due("carriersNeeded when one was released", 2, x.carriersNeeded());
        x.release(2);
        Check.due("carriersNeeded by one", 1, x.carriersNeeded());
        x.release(3);
        Check.due("carriersNeeded when no call is left", 1, x.carriersNeeded());
        // In the order of the queue the later call comes first, whatever it has now.
        x = Check.loaded("carriers 2;" + NARROW + "call a b 9 116 9;call b c 1 116 9;call c d 8 77 9;call d a 8 77 9;");
        Check.due("all are active on two carriers", 0, x.queueLength());
        Check.due("carriersNeeded in the order of the queue", 3, x.carriersNeeded());
    }

    private static void earliestStarts() {
        SatelliteExchange x = Check.loaded("carriers 2;" + NARROW + "call a b 5 198 5;call c d 5 50 9;call a e 5 1 9;");
        int[] states = {ACTIVE, ACTIVE, WAITING};
        for (int k = 0; k < 3; k++) {
            Check.due("stateOf " + k, states[k], x.stateOf(k));
            for (int c = 0; c < 2; c++) {
                Check.due("earliestStart of " + k + " on " + c, NOT_FOUND, x.earliestStart(k, c));
            }
        }
        x.advance(5);
        Check.due("the waiting call begins as soon as it has a start", ACTIVE, x.stateOf(2));
        for (int c = 0; c < 2; c++) {
            Check.due("earliestStart of one that ended, on " + c, NOT_FOUND, x.earliestStart(0, c));
            Check.due("earliestStart of one that began, on " + c, NOT_FOUND, x.earliestStart(2, c));
        }
    }
}
