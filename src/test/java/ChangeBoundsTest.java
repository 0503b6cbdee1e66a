/** CHANGES and promises 8, 39, 40, 42, 44 and 45: the sentences that name a bound, each with a test of its own. */
public final class ChangeBoundsTest {
    private static final int NOT_FOUND = -1, BAD_VALUE = -2, FULL = -3;
    private static final int WAITING = 0, ACTIVE = 1, ENDED = 2;
    private static final int LEVEL = 4, STEP = 5, GAIN = 6;
    private static final int BLANK = 0x20202020;
    private static final String FOUR = "station a 0 3 300 340;station b 300 - 2 300 300;station c 0 0 310 310;"
            + "station d 0 0 300 300;";
    /** Bursts stand from 1 to 200, side by side; each is 1 longer than its call. */
    private static final String NARROW = "set length 200;set guard 0;set reference 1;set preamble 1;" + FOUR;

    /** A call that is refused, or only asks. */
    private interface Deed {
        void on(SatelliteExchange x);
    }

    private ChangeBoundsTest() {
    }

    public static void main(String[] args) {
        changesToKeep();
        undoOfTheOldestKept();
        undoThenOtherChanges();
        whatIsAChange();
        whatIsNoChange();
        requestsAtTheirBounds();
        requestsOutOfBounds();
        whichRefusalComesFirst();
        requestsOfStations();
        sixteenCalls();
        requestsAfterAnUndo();
        requestsThatPassTheQueue();
        releasesAtTheirBounds();
        releasesServeInOrder();
        settingsAtTheirBounds();
        settingsThatAreNone();
        compactOfNothing();
        compactCountsCarriersAndStarts();
        compactServesBehind();
        compactKeepsFrames();
        compactWithoutRoom();
        undoOfEachChange();
        undoOfErrorsAndQueues();
        refusalsLeaveAll();
        refusalsInTheLastFrame();
        refusalsWithAFullBuffer();
        refusedCompactLeavesAll();
        questionsLeaveAll();
        Check.end();
    }

    private static void changesToKeep() {
        SatelliteExchange x = new SatelliteExchange();
        Check.due("undoCount of a new exchange", 0, x.undoCount());
        Check.due("undo of a new exchange", NOT_FOUND, x.undo());
        for (int i = 1; i <= 12; i++) {
            x.setSetting(LEVEL, i);
            Check.due("undoCount behind " + i + " changes", Math.min(10, i), x.undoCount());
        }
        for (int i = 9; i >= 0; i--) {
            Check.due("undo to " + i, i, x.undo());
            Check.due("undoCount", i, x.undoCount());
            Check.due("the level then", i + 2, x.getSetting(LEVEL));
        }
        Check.due("undo of none that is kept", NOT_FOUND, x.undo());
        Check.due("undoCount of none", 0, x.undoCount());
        Check.due("the level stays", 2, x.getSetting(LEVEL));
    }

    private static void undoOfTheOldestKept() {
        for (int changes = 9; changes <= 11; changes++) {
            SatelliteExchange x = Check.loaded(NARROW);
            for (int i = 0; i < changes; i++) {
                x.advance(1);
            }
            for (int left = Math.min(10, changes) - 1; left >= 0; left--) {
                Check.due("undo of " + changes, left, x.undo());
            }
            Check.due("the frame behind all undos of " + changes, Math.max(0, changes - 10), x.now());
            Check.due("undo once more", NOT_FOUND, x.undo());
            Check.due("the frame behind it", Math.max(0, changes - 10), x.now());
        }
    }

    private static void undoThenOtherChanges() {
        SatelliteExchange x = new SatelliteExchange();
        for (int i = 1; i <= 10; i++) {
            x.setSetting(LEVEL, i);
        }
        x.undo();
        x.undo();
        x.setSetting(LEVEL, 100);
        Check.due("undoCount behind two undos and a change", 9, x.undoCount());
        x.setSetting(LEVEL, 101);
        x.setSetting(LEVEL, 102);
        Check.due("undoCount behind two more", 10, x.undoCount());
        int[] due = {101, 100, 8, 7, 6, 5, 4, 3, 2, 1};
        for (int i = 0; i < due.length; i++) {
            Check.due("undo", 9 - i, x.undo());
            Check.due("the level behind " + (i + 1) + " undos", due[i], x.getSetting(LEVEL));
        }
        Check.due("undo of the dropped one", NOT_FOUND, x.undo());
    }

    private static void whatIsAChange() {
        SatelliteExchange x = Check.loaded(NARROW);
        x.request(0, 1, 0, 9, 9);
        Check.due("a request", 1, x.undoCount());
        x.request(0, 1, 0, 198, 9);
        Check.due("a request that has to wait", 2, x.undoCount());
        x.release(1);
        Check.due("a release of a waiting call", 3, x.undoCount());
        x.release(0);
        Check.due("a release", 4, x.undoCount());
        x.advance(1);
        Check.due("an advance", 5, x.undoCount());
        x.setSetting(LEVEL, 300);
        Check.due("a setting to what it has already", 6, x.undoCount());
        x.acquire(3);
        Check.due("an acquire of what has no error", 7, x.undoCount());
        x.compact();
        Check.due("a compact that moves nothing", 8, x.undoCount());
        x.advance(200);
        Check.due("an advance of 200 frames is one change", 9, x.undoCount());
    }

    private static void whatIsNoChange() {
        SatelliteExchange x = busy();
        Check.due("undoCount", 10, x.undoCount());
        x.undo();
        x.undo();
        for (Deed deed : refusals()) {
            deed.on(x);
            Check.due("undoCount behind a refusal", 8, x.undoCount());
        }
        for (Deed deed : questions()) {
            deed.on(x);
            Check.due("undoCount behind a question", 8, x.undoCount());
        }
        x.feed(BLANK, BLANK, BLANK, BLANK, BLANK);
        Check.due("undoCount behind feed", 8, x.undoCount());
    }

    private static void requestsAtTheirBounds() {
        int[][] good = {{0, 1, 1}, {1, 1, 1}, {8, 1, 1}, {9, 1, 1}, {0, 2, 1}, {0, 1999, 1}, {0, 2000, 1}, {0, 1, 2},
            {0, 1, 9998}, {0, 1, 9999}, {9, 2000, 9999}};
        for (int[] one : good) {
            SatelliteExchange x = Check.loaded("set length 3000;" + FOUR);
            Check.due("request " + one[0] + ", " + one[1] + ", " + one[2], 0, x.request(0, 1, one[0], one[1], one[2]));
            Check.due("priorityOf", one[0], x.priorityOf(0));
            Check.due("burstOf", 20 + one[1], x.burstOf(0));
            Check.due("endOf", one[2], x.endOf(0));
            Check.due("stateOf", ACTIVE, x.stateOf(0));
            Check.due("senderOf", 0, x.senderOf(0));
            Check.due("receiverOf", 1, x.receiverOf(0));
            Check.due("undoCount", 1, x.undoCount());
        }
    }

    private static void requestsOutOfBounds() {
        int[][] bad = {{-1, 1, 1}, {10, 1, 1}, {0, 0, 1}, {0, -1, 1}, {0, 2001, 1}, {0, 1, 0}, {0, 1, -1}, {0, 1, 10000},
            {Integer.MIN_VALUE, 1, 1}, {Integer.MAX_VALUE, 1, 1}, {0, Integer.MIN_VALUE, 1}, {0, Integer.MAX_VALUE, 1},
            {0, 1, Integer.MIN_VALUE}, {0, 1, Integer.MAX_VALUE}, {-1, 0, 0}, {10, 2001, 10000}};
        for (int[] one : bad) {
            SatelliteExchange x = Check.loaded(FOUR);
            Check.due("request " + one[0] + ", " + one[1] + ", " + one[2], BAD_VALUE,
                    x.request(0, 1, one[0], one[1], one[2]));
            Check.alike("a request out of range", x, Check.loaded(FOUR));
        }
        for (int n = 0; n <= 4; n++) {
            String text = "station a 0 0 0 0;station b 0 0 0 0;station c 0 0 0 0;station d 0 0 0 0;".substring(0, 18 * n);
            int[][] strange = {{-1, 0}, {0, -1}, {n, 0}, {0, n}, {n, n}, {-1, -1}, {0, 0}, {n - 1, n - 1}, {n + 1, 0},
                {0, n + 1}, {Integer.MIN_VALUE, 0}, {0, Integer.MAX_VALUE}, {Integer.MAX_VALUE, Integer.MIN_VALUE}};
            for (int[] pair : strange) {
                SatelliteExchange x = Check.loaded(text);
                Check.due("stations", n, x.stationCount());
                Check.due("request from " + pair[0] + " to " + pair[1] + " of " + n, NOT_FOUND,
                        x.request(pair[0], pair[1], 0, 1, 1));
                Check.due("calls behind it", 0, x.callCount());
                Check.due("changes behind it", 0, x.undoCount());
            }
        }
    }

    /** First the stations, then the values, then the number of calls. */
    private static void whichRefusalComesFirst() {
        SatelliteExchange x = Check.loaded(NARROW + "call a b 0 9 9;".repeat(16));
        Check.due("no station, bad values, no room", NOT_FOUND, x.request(4, 0, 10, 0, 0));
        Check.due("the same station, bad values, no room", NOT_FOUND, x.request(2, 2, -1, 2001, 10000));
        Check.due("no station, no room", NOT_FOUND, x.request(0, 4, 0, 1, 1));
        Check.due("bad priority, no room", BAD_VALUE, x.request(0, 1, 10, 1, 1));
        Check.due("bad symbols, no room", BAD_VALUE, x.request(0, 1, 0, 0, 1));
        Check.due("bad hold, no room", BAD_VALUE, x.request(0, 1, 0, 1, 0));
        Check.due("no room", FULL, x.request(0, 1, 0, 1, 1));
        x = Check.loaded(NARROW);
        Check.due("no station, bad priority", NOT_FOUND, x.request(-1, 0, 10, 1, 1));
        Check.due("no station, bad symbols", NOT_FOUND, x.request(0, 4, 0, 0, 1));
        Check.due("the same station, bad hold", NOT_FOUND, x.request(1, 1, 0, 1, 0));
    }

    private static void requestsOfStations() {
        for (int sender = 0; sender < 4; sender++) {
            for (int receiver = 0; receiver < 4; receiver++) {
                SatelliteExchange x = Check.loaded(NARROW);
                Check.due("request from " + sender + " to " + receiver, sender == receiver ? NOT_FOUND : 0,
                        x.request(sender, receiver, 0, 1, 1));
                if (sender != receiver) {
                    Check.due("its sender", sender, x.senderOf(0));
                    Check.due("its receiver", receiver, x.receiverOf(0));
                }
            }
        }
    }

    private static void sixteenCalls() {
        SatelliteExchange x = Check.loaded(NARROW + "call a b 0 9 1;".repeat(14));
        Check.due("request of the fifteenth", 14, x.request(0, 1, 0, 9, 1));
        Check.due("request of the sixteenth", 15, x.request(0, 1, 0, 9, 1));
        Check.due("request of a seventeenth", FULL, x.request(0, 1, 0, 9, 1));
        Check.due("callCount", 16, x.callCount());
        Check.due("undoCount", 2, x.undoCount());
        x.release(15);
        x.advance(1);
        Check.due("request when all have ended", FULL, x.request(0, 1, 0, 9, 1));
        x.undo();
        x.undo();
        x.undo();
        Check.due("request when one was undone", 15, x.request(0, 1, 0, 9, 1));
    }

    /** A call that takes the index of an undone one has nothing of it. */
    private static void requestsAfterAnUndo() {
        SatelliteExchange x = Check.loaded(NARROW + "set level 999;");
        x.request(0, 1, 9, 9, 9);
        x.advance(3);
        Check.due("degradedFrames of the first one", 3, x.degradedFrames(0));
        x.undo();
        x.undo();
        x.advance(1);
        Check.due("its index again", 0, x.request(2, 3, 1, 198, 5));
        Check.due("degradedFrames of the other one", 0, x.degradedFrames(0));
        Check.due("stateOf the other one", ACTIVE, x.stateOf(0));
        Check.due("startOf the other one", 1, x.startOf(0));
        Check.due("endOf the other one", 6, x.endOf(0));
        Check.due("waitOf the other one", 0, x.waitOf(0));
        x.undo();
        x.request(0, 1, 0, 199, 5);
        Check.due("the next one waits, whatever the one before did", WAITING, x.stateOf(0));
        Check.due("its end", NOT_FOUND, x.endOf(0));
        x.advance(2);
        Check.due("its wait", 2, x.waitOf(0));
        x.release(0);
        Check.due("its wait when it was released", NOT_FOUND, x.waitOf(0));
        x.undo();
        x.undo();
        x.undo();
        x.request(0, 1, 0, 9, 5);
        Check.due("the last one is active, though one before ended", ACTIVE, x.stateOf(0));
        Check.due("its state is its own", 6, x.endOf(0));
    }

    private static void requestsThatPassTheQueue() {
        SatelliteExchange x = Check.loaded(NARROW + "call a b 9 99 9;call a b 9 150 9;");
        Check.due("the first in the queue", 1, x.queuedAt(0));
        x.request(2, 3, 0, 98, 9);
        Check.due("a later call that fits does not wait", ACTIVE, x.stateOf(2));
        x.request(2, 3, 9, 1, 9);
        Check.due("one that does not fit waits", WAITING, x.stateOf(3));
        Check.due("behind the equal one in the queue", 3, x.queuedAt(1));
    }

    private static void releasesAtTheirBounds() {
        for (int n : new int[] {0, 1, 16}) {
            for (int k : new int[] {-1, n, n + 1, 16, Integer.MIN_VALUE, Integer.MAX_VALUE}) {
                SatelliteExchange x = Check.loaded(NARROW + "call a b 0 9 9;".repeat(n));
                Check.due("release(" + k + ") of " + n, NOT_FOUND, x.release(k));
                Check.due("undoCount behind it", 0, x.undoCount());
            }
            for (int k : new int[] {0, n - 1}) {
                SatelliteExchange x = Check.loaded(NARROW + "call a b 0 9 9;".repeat(n));
                Check.due("release(" + k + ") of " + n, n == 0 ? NOT_FOUND : 0, x.release(k));
                Check.due("release(" + k + ") of " + n + " again", NOT_FOUND, x.release(k));
                Check.due("undoCount behind both", n == 0 ? 0 : 1, x.undoCount());
            }
        }
        SatelliteExchange x = Check.loaded(NARROW + "call a b 0 9 1;call c d 0 199 1;");
        x.advance(1);
        Check.due("release of one that ended by itself", NOT_FOUND, x.release(0));
        Check.due("release of a waiting one", 0, x.release(1));
        Check.due("release of one that was released waiting", NOT_FOUND, x.release(1));
        Check.due("undoCount", 2, x.undoCount());
    }

    private static void releasesServeInOrder() {
        SatelliteExchange x = Check.loaded(NARROW + "call a b 9 198 9;call a b 1 98 9;call a b 1 99 9;call a b 2 100 9;"
                + "call a b 2 97 9;call a b 2 9 9;");
        // In the order of the queue: 3 (101), 4 (98), 5 (10), 1 (99), 2 (100); 199 symbols are free.
        Check.due("release of all symbols", 2, x.release(0));
        int[] states = {ENDED, WAITING, WAITING, ACTIVE, ACTIVE, WAITING};
        for (int k = 0; k < 6; k++) {
            Check.due("stateOf " + k, states[k], x.stateOf(k));
        }
        Check.due("release of 98 symbols", 1, x.release(4));
        Check.due("the next in the queue", ACTIVE, x.stateOf(5));
        Check.due("release of 101 symbols", 1, x.release(3));
        Check.due("the next in the queue", ACTIVE, x.stateOf(1));
        Check.due("the last does not fit yet", WAITING, x.stateOf(2));
        Check.due("release that joins two gaps", 1, x.release(5));
        Check.due("the last begins there", 100, x.startOf(2));
        Check.due("release when the queue is empty", 0, x.release(1));
        x = Check.loaded(NARROW + "call a b 9 198 9;" + "call a b 0 12 9;".repeat(15));
        Check.due("release for fifteen", 15, x.release(0));
    }

    private static void settingsAtTheirBounds() {
        int[][] ranges = {{LEVEL, 0, 999, 300}, {STEP, 1, 100, 20}, {GAIN, 1, 100, 50}};
        for (int[] one : ranges) {
            for (int value : new int[] {one[1], one[1] + 1, one[2] - 1, one[2], one[3]}) {
                SatelliteExchange x = new SatelliteExchange();
                Check.due("setSetting(" + one[0] + ", " + value + ")", one[3], x.setSetting(one[0], value));
                Check.due("getSetting", value, x.getSetting(one[0]));
                Check.due("undoCount", 1, x.undoCount());
                Check.due("setSetting back", value, x.setSetting(one[0], one[3]));
                Check.due("undo", 1, x.undo());
                Check.due("getSetting", value, x.getSetting(one[0]));
            }
            for (int value : new int[] {one[1] - 1, one[2] + 1, -1, 1000, Integer.MIN_VALUE, Integer.MAX_VALUE}) {
                SatelliteExchange x = new SatelliteExchange();
                Check.due("setSetting(" + one[0] + ", " + value + ")", BAD_VALUE, x.setSetting(one[0], value));
                Check.alike("setSetting out of range", x, new SatelliteExchange());
            }
        }
    }

    private static void settingsThatAreNone() {
        int[] values = {1000, 10, 50, 20, 1, 1, 1, 1};
        for (int setting : new int[] {-1, 0, 1, 2, 3, 7, 8, Integer.MIN_VALUE, Integer.MAX_VALUE}) {
            for (int value : new int[] {values[setting & 7], 200, 50, 1, 0, -1, Integer.MAX_VALUE}) {
                SatelliteExchange x = new SatelliteExchange();
                Check.due("setSetting(" + setting + ", " + value + ")", BAD_VALUE, x.setSetting(setting, value));
                Check.due("undoCount behind it", 0, x.undoCount());
                for (int i = 0; i < 4; i++) {
                    Check.due("getSetting " + i + " behind it", values[i], x.getSetting(i));
                }
            }
        }
    }

    private static void compactOfNothing() {
        SatelliteExchange x = new SatelliteExchange();
        Check.due("compact of a new exchange", 0, x.compact());
        Check.due("is a change", 1, x.undoCount());
        x = Check.loaded(NARROW + "call a b 0 199 9;");
        Check.due("compact with a waiting call alone", 0, x.compact());
        Check.due("it still waits", WAITING, x.stateOf(0));
        x = Check.loaded(NARROW + "call a b 0 9 9;");
        Check.due("compact of one call in its place", 0, x.compact());
        x.request(0, 1, 0, 9, 9);
        x.release(0);
        Check.due("compact of one call that moves", 1, x.compact());
        Check.due("its start", 1, x.startOf(1));
        Check.due("compact again", 0, x.compact());
        x.release(1);
        Check.due("compact of ended calls", 0, x.compact());
        Check.due("the last one has no start", NOT_FOUND, x.startOf(1));
    }

    private static void compactCountsCarriersAndStarts() {
        // Both change their carriers and keep their starts.
        SatelliteExchange x = Check.loaded("carriers 2;" + NARROW + "call a b 1 9 9;call c d 2 9 9;");
        Check.due("compact that swaps two", 2, x.compact());
        Check.due("the first", 1, x.carrierOf(0));
        Check.due("the second", 0, x.carrierOf(1));
        Check.due("its start", 1, x.startOf(0));
        Check.due("its start", 1, x.startOf(1));
        // Only the carrier of the one changes, to the lower one; the other two stay.
        x = Check.loaded("carriers 3;" + NARROW + "call a b 5 9 9;call b c 5 9 9;call c d 5 9 9;");
        x.release(1);
        Check.due("compact that moves the last", 1, x.compact());
        Check.due("its carrier", 1, x.carrierOf(2));
        Check.due("its start", 1, x.startOf(2));
        Check.due("the other's carrier", 0, x.carrierOf(0));
        // The carrier stays, the start falls; or the start rises.
        x = Check.loaded(NARROW + "call a b 1 9 9;call a b 2 19 9;");
        Check.due("compact that changes starts", 2, x.compact());
        Check.due("the risen start", 21, x.startOf(0));
        Check.due("the fallen start", 1, x.startOf(1));
        // Equal priorities: by index.
        x = Check.loaded(NARROW + "call a b 5 9 9;call a b 5 19 9;call a b 5 29 9;");
        Check.due("compact of equal priorities", 0, x.compact());
        x.release(0);
        Check.due("compact of equal priorities behind a release", 2, x.compact());
        Check.due("the lower index first", 1, x.startOf(1));
        Check.due("the higher index next", 21, x.startOf(2));
    }

    private static void compactServesBehind() {
        SatelliteExchange x = Check.loaded(NARROW + "call a b 0 49 9;call a b 0 49 9;call a b 0 49 9;call a b 9 97 4;"
                + "call a b 9 98 4;");
        x.release(1);
        // 49 symbols are free at the end and 50 in the middle: together 99.
        Check.due("the queue before", 2, x.queueLength());
        Check.due("compact counts what moved, not what began", 1, x.compact());
        Check.due("the start of what moved", 51, x.startOf(2));
        Check.due("the first in the queue began", ACTIVE, x.stateOf(3));
        Check.due("its start", 101, x.startOf(3));
        Check.due("the second found no room", WAITING, x.stateOf(4));
        Check.due("undo of compact", 1, x.undo());
        Check.due("the queue again", 2, x.queueLength());
        Check.due("the start again", 101, x.startOf(2));
    }

    private static void compactKeepsFrames() {
        SatelliteExchange x = Check.loaded(NARROW + "set level 999;call a b 0 198 3;call a b 0 98 9;call c d 1 98 9;");
        x.advance(4);
        Check.due("startOf the one", 1, x.startOf(2));
        x.release(2);
        x.request(2, 3, 9, 9, 9);
        Check.due("compact that moves one", 1, x.compact());
        Check.due("it became active in frame 3", 12, x.endOf(1));
        Check.due("and waited 3 frames", 3, x.waitOf(1));
        Check.due("and was degraded in frame 4", 1, x.degradedFrames(1));
        Check.due("the other one became active in frame 4", 13, x.endOf(3));
        x.advance(1);
        Check.due("it goes on being degraded", 2, x.degradedFrames(1));
        Check.due("the other one begins to be", 1, x.degradedFrames(3));
        Check.advanceTo(x, 11);
        Check.due("active to the frame before its end", ACTIVE, x.stateOf(1));
        x.advance(1);
        Check.due("ended in the frame of its end", ENDED, x.stateOf(1));
    }

    private static SatelliteExchange crowded() {
        SatelliteExchange x = Check.loaded("carriers 2;" + NARROW
                + "call a b 9 116 9;call b c 1 116 9;call c d 8 77 9;call d a 8 77 9;call a c 0 190 5;");
        x.setSetting(LEVEL, 1);
        x.advance(1);
        return x;
    }

    private static void compactWithoutRoom() {
        SatelliteExchange x = crowded();
        Check.due("all but one are active", 1, x.queueLength());
        Check.due("compact", FULL, x.compact());
        Check.due("undoCount behind it", 2, x.undoCount());
        Check.alike("compact without room", x, crowded());
    }

    private static void undoOfEachChange() {
        Deed[] changes = {x -> x.request(0, 1, 9, 30, 5), x -> x.request(0, 1, 9, 198, 5), x -> x.release(1),
            x -> x.release(3), x -> x.advance(1), x -> x.advance(200), x -> x.setSetting(LEVEL, 999),
            x -> x.setSetting(STEP, 1), x -> x.setSetting(GAIN, 1), x -> x.acquire(0), x -> x.acquire(1), x -> x.compact()};
        for (int i = 0; i < changes.length; i++) {
            SatelliteExchange x = busy();
            x.undo();
            int kept = x.undoCount();
            changes[i].on(x);
            Check.due("undoCount behind change " + i, kept + 1, x.undoCount());
            Check.due("undo of change " + i, kept, x.undo());
            SatelliteExchange y = busy();
            y.undo();
            Check.alike("change " + i + " and undo", x, y);
        }
    }

    private static void undoOfErrorsAndQueues() {
        SatelliteExchange x = Check.loaded("set length 200;set gain 100;station a 5000 2 0 0;station b 0 0 0 0;");
        x.advance(120);
        int[] ahead = new int[120];
        for (int i = 0; i < ahead.length; i++) {
            ahead[i] = x.errorAfter(0, i);
        }
        x.acquire(0);
        x.advance(70);
        x.undo();
        Check.due("undo of acquire", 1, x.undo());
        for (int i = 0; i < ahead.length; i++) {
            Check.due("errorAfter " + i + " when all errors are back", ahead[i], x.errorAfter(0, i));
        }
        x = Check.loaded(NARROW + "call a b 0 198 2;call a b 1 198 3;call a b 5 198 4;");
        x.advance(9);
        Check.due("all have ended", NOT_FOUND, x.nextEnd());
        x.undo();
        Check.due("queueLength behind undo", 2, x.queueLength());
        Check.due("queuedAt 0 behind undo", 2, x.queuedAt(0));
        Check.due("nextEnd behind undo", 2, x.nextEnd());
        x.advance(2);
        Check.due("it goes on as before", ACTIVE, x.stateOf(2));
    }

    /** Ten kept changes, and more before them; twenty bytes in the buffer. */
    private static SatelliteExchange busy() {
        SatelliteExchange x = Check.loaded(NARROW + "rain a 1 8 30;rain b 4 9 400;set level 305;");
        Check.feed(x, "carriers 2;set step ");
        x.setSetting(GAIN, 70);
        x.request(0, 1, 5, 99, 7);
        x.advance(2);
        x.request(1, 2, 4, 50, 2);
        x.acquire(1);
        x.request(2, 3, 3, 47, 9);
        x.setSetting(STEP, 11);
        x.request(3, 0, 6, 120, 5);
        x.advance(1);
        x.compact();
        x.request(0, 2, 1, 1, 8);
        x.advance(1);
        return x;
    }

    private static Deed[] refusals() {
        int low = Integer.MIN_VALUE;
        int high = Integer.MAX_VALUE;
        return new Deed[] {x -> Check.due("load(-1)", BAD_VALUE, x.load(-1)),
            x -> Check.due("load(21)", BAD_VALUE, x.load(21)), x -> Check.due("load(high)", BAD_VALUE, x.load(high)),
            x -> Check.due("request from no station", NOT_FOUND, x.request(4, 0, 0, 1, 1)),
            x -> Check.due("request to no station", NOT_FOUND, x.request(0, -1, 0, 1, 1)),
            x -> Check.due("request to itself", NOT_FOUND, x.request(3, 3, 0, 1, 1)),
            x -> Check.due("request with a priority of 10", BAD_VALUE, x.request(0, 1, 10, 1, 1)),
            x -> Check.due("request of 0 symbols", BAD_VALUE, x.request(0, 1, 0, 0, 1)),
            x -> Check.due("request with a hold of 10000", BAD_VALUE, x.request(0, 1, 0, 1, 10000)),
            x -> Check.due("release(-1)", NOT_FOUND, x.release(-1)),
            x -> Check.due("release(16)", NOT_FOUND, x.release(16)),
            x -> Check.due("release(low)", NOT_FOUND, x.release(low)),
            x -> Check.due("advance(0)", BAD_VALUE, x.advance(0)),
            x -> Check.due("advance(201)", BAD_VALUE, x.advance(201)),
            x -> Check.due("advance(low)", BAD_VALUE, x.advance(low)),
            x -> Check.due("setSetting(3, 20)", BAD_VALUE, x.setSetting(3, 20)),
            x -> Check.due("setSetting(7, 20)", BAD_VALUE, x.setSetting(7, 20)),
            x -> Check.due("setSetting(4, 1000)", BAD_VALUE, x.setSetting(LEVEL, 1000)),
            x -> Check.due("setSetting(5, 0)", BAD_VALUE, x.setSetting(STEP, 0)),
            x -> Check.due("setSetting(6, 101)", BAD_VALUE, x.setSetting(GAIN, 101)),
            x -> Check.due("acquire(-1)", false, x.acquire(-1)), x -> Check.due("acquire(4)", false, x.acquire(4)),
            x -> Check.due("acquire(high)", false, x.acquire(high))};
    }

    private static void refusalsLeaveAll() {
        Deed[] refusals = refusals();
        for (int i = 0; i < refusals.length; i++) {
            SatelliteExchange x = busy();
            refusals[i].on(x);
            Check.alike("refusal " + i, x, busy());
        }
        SatelliteExchange x = busy();
        x.release(1);
        SatelliteExchange y = busy();
        y.release(1);
        Check.due("release of an ended call", NOT_FOUND, x.release(1));
        Check.alike("release of an ended call", x, y);
        x = new SatelliteExchange();
        Check.due("undo of nothing", NOT_FOUND, x.undo());
        Check.alike("undo of nothing", x, new SatelliteExchange());
    }

    private static SatelliteExchange late() {
        SatelliteExchange x = Check.loaded(NARROW + "call a b 0 99 9999;call a b 0 150 9;call a b 1 150 9;");
        Check.advanceTo(x, 9990);
        for (int k = 3; k < 16; k++) {
            x.request(2, 3, 0, 1, 2);
        }
        x.advance(5);
        return x;
    }

    private static void refusalsInTheLastFrame() {
        SatelliteExchange x = late();
        Check.due("advance by one frame too many", FULL, x.advance(5));
        Check.due("advance by 200 frames", FULL, x.advance(200));
        Check.due("request of a seventeenth call", FULL, x.request(0, 1, 0, 1, 1));
        Check.due("powerAfter beyond the end", NOT_FOUND, x.powerAfter(0, 5));
        Check.due("framesToWait beyond the end", 4, x.framesToWait(2));
        Check.due("framesToWait beyond the end", NOT_FOUND, x.framesToWait(1));
        Check.due("release of an ended call", NOT_FOUND, x.release(3));
        Check.alike("refusals near the end", x, late());
    }

    private static void refusalsWithAFullBuffer() {
        SatelliteExchange x = busy();
        SatelliteExchange y = busy();
        for (int i = 0; i < 49; i++) {
            Check.due("feed", 40 + 20 * i, x.feed(BLANK, BLANK, BLANK, BLANK, BLANK));
            y.feed(BLANK, BLANK, BLANK, BLANK, BLANK);
        }
        Check.due("feed of a full buffer", FULL, x.feed(0x23232323, 0x23232323, 0x23232323, 0x23232323, 0x23232323));
        Check.due("load beyond a full buffer", BAD_VALUE, x.load(1001));
        Check.alike("refusals with a full buffer", x, y);
    }

    private static void refusedCompactLeavesAll() {
        SatelliteExchange x = crowded();
        SatelliteExchange y = crowded();
        for (int i = 0; i < 11; i++) {
            x.setSetting(STEP, 3 + i);
            y.setSetting(STEP, 3 + i);
        }
        Check.due("compact", FULL, x.compact());
        Check.due("compact again", FULL, x.compact());
        Check.alike("a refused compact behind many changes", x, y);
    }

    /** Questions, those that look ahead and those that are out of range among them. */
    private static Deed[] questions() {
        return new Deed[] {x -> x.carriersNeeded(), x -> x.framesToWait(3), x -> x.framesToWait(0), x -> x.callsToDrop(3),
            x -> x.fitsWithout(3, -1), x -> x.earliestStart(3, 0), x -> x.clearFrame(0), x -> x.clearFrame(3),
            x -> x.errorAfter(0, 200), x -> x.errorAfter(1, 201), x -> x.powerAfter(0, 200), x -> x.powerAfter(1, -1),
            x -> x.framesInTime(0), x -> x.framesInTime(1), x -> x.longestFit(0), x -> x.conflicts(0), x -> x.degradedNow(),
            x -> x.busiestStation(), x -> x.queuedAt(0), x -> x.queuedAt(-1), x -> x.callAt(0, -1), x -> x.callOver(0, -1),
            x -> x.fade(0, 10000), x -> x.getSetting(7), x -> x.stationNamed(-1), x -> x.errorPosition(),
            x -> Check.outOfBounds("power of no station", () -> x.power(4)),
            x -> Check.outOfBounds("stateOf no call", () -> x.stateOf(16)),
            x -> Check.outOfBounds("callsOn no carrier", () -> x.callsOn(1)),
            x -> Check.outOfBounds("framesToWait of no call", () -> x.framesToWait(-1)),
            x -> Check.outOfBounds("errorAfter of no station", () -> x.errorAfter(-1, 5)),
            x -> Check.outOfBounds("earliestStart on no carrier", () -> x.earliestStart(3, 1)),
            x -> Check.outOfBounds("callsToDrop of no call", () -> x.callsToDrop(16))};
    }

    private static void questionsLeaveAll() {
        Deed[] questions = questions();
        for (int i = 0; i < questions.length; i++) {
            SatelliteExchange x = busy();
            questions[i].on(x);
            Check.alike("question " + i, x, busy());
        }
    }
}
