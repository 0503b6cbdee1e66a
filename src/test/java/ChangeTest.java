/** Promises 8, 39, 40, 42, 44 and 45, and CHANGES. */
public final class ChangeTest {
    private static final int NOT_FOUND = -1, BAD_VALUE = -2, FULL = -3;
    private static final int WAITING = 0, ACTIVE = 1, ENDED = 2;
    private static final String STATIONS = "station a 0 3 300 340;station b 300 - 2 300 300;station c 0 0 310 310;"
            + "station d 0 0 300 300;rain a 1 8 30;";
    private static final String NARROW = "set length 200;set guard 0;set reference 1;set preamble 1;" + STATIONS;

    private ChangeTest() {
    }

    public static void main(String[] args) {
        requests();
        refusedRequests();
        fullOfCalls();
        releases();
        refusedReleases();
        settings();
        compacting();
        compactingServes();
        compactingKeepsTimes();
        compactingFails();
        undoingEach();
        undoingMany();
        undoingBetween();
        Check.end();
    }

    private static void requests() {
        SatelliteExchange x = Check.loaded(NARROW);
        x.advance(2);
        Check.due("request", 0, x.request(0, 1, 0, 1, 1));
        Check.due("request of the greatest values", 1, x.request(1, 0, 9, 2000, 9999));
        Check.due("callCount", 2, x.callCount());
        Check.due("the first is active at once", ACTIVE, x.stateOf(0));
        Check.due("the first one's end", 3, x.endOf(0));
        Check.due("the second waits", WAITING, x.stateOf(1));
        Check.due("it is in the queue", 1, x.queuedAt(0));
        Check.due("each request is a change", 3, x.undoCount());
        Check.due("sender", 1, x.senderOf(1));
        Check.due("receiver", 0, x.receiverOf(1));
        Check.due("priority", 9, x.priorityOf(1));
        Check.due("burst", 2001, x.burstOf(1));
        x.advance(1);
        Check.due("wait", 1, x.waitOf(1));
        Check.due("request of a later call", 2, x.request(2, 3, 5, 198, 7));
        Check.due("it passes the waiting one, which does not fit", ACTIVE, x.stateOf(2));
    }

    private static void refusedRequests() {
        SatelliteExchange x = Check.loaded(NARROW + "call a b 0 1 9;");
        x.advance(1);
        String before = Check.picture(x);
        int[][] strange = {{-1, 0}, {0, -1}, {4, 0}, {0, 4}, {0, 0}, {3, 3}, {-1, -1}, {4, 4}, {Integer.MIN_VALUE, 0},
            {0, Integer.MAX_VALUE}};
        for (int[] pair : strange) {
            Check.due("request from " + pair[0] + " to " + pair[1], NOT_FOUND, x.request(pair[0], pair[1], 0, 1, 1));
            Check.due("stations are checked first", NOT_FOUND, x.request(pair[0], pair[1], -1, 0, 0));
        }
        int[][] bad = {{-1, 1, 1}, {10, 1, 1}, {0, 0, 1}, {0, 2001, 1}, {0, 1, 0}, {0, 1, 10000},
            {Integer.MIN_VALUE, 1, 1}, {0, Integer.MIN_VALUE, 1}, {0, 1, Integer.MIN_VALUE},
            {Integer.MAX_VALUE, 1, 1}, {0, Integer.MAX_VALUE, 1}, {0, 1, Integer.MAX_VALUE}};
        for (int[] values : bad) {
            Check.due("request with " + values[0] + ", " + values[1] + ", " + values[2], BAD_VALUE,
                    x.request(0, 1, values[0], values[1], values[2]));
        }
        Check.unchanged("refused requests", before, x);
        Check.due("request without stations", NOT_FOUND, new SatelliteExchange().request(0, 1, 0, 1, 1));
    }

    private static void fullOfCalls() {
        SatelliteExchange x = Check.loaded(NARROW);
        for (int i = 0; i < 16; i++) {
            Check.due("request " + i, i, x.request(0, 1, 0, 50, 1));
        }
        String before = Check.picture(x);
        Check.due("request of a 17th call", FULL, x.request(0, 1, 0, 50, 1));
        Check.due("a bad 17th request", BAD_VALUE, x.request(0, 1, 0, 0, 1));
        Check.due("a 17th request from nowhere", NOT_FOUND, x.request(0, 0, 0, 50, 1));
        Check.unchanged("a request too many", before, x);
        x.advance(20);
        Check.due("all calls have ended", NOT_FOUND, x.nextEnd());
        Check.due("ended calls count too", FULL, x.request(0, 1, 0, 50, 1));
        Check.due("callCount", 16, x.callCount());
    }

    private static void releases() {
        SatelliteExchange x = Check.loaded(NARROW + "call a b 5 198 9;call b c 1 98 9;call c d 9 150 9;call d a 1 40 9;"
                + "call a c 0 6 9;");
        x.advance(1);
        Check.due("release: the queue in its order, what does not fit is passed", 3, x.release(0));
        int[] states = {ENDED, WAITING, ACTIVE, ACTIVE, ACTIVE};
        for (int k = 0; k < 5; k++) {
            Check.due("stateOf " + k, states[k], x.stateOf(k));
        }
        Check.due("start of the first in the queue", 1, x.startOf(2));
        Check.due("start of the next that fits", 152, x.startOf(3));
        Check.due("start of the last", 193, x.startOf(4));
        Check.due("they began in this frame", 10, x.endOf(2));
        Check.due("release is one change", 2, x.undoCount());
        Check.due("release of a waiting call", 0, x.release(1));
        Check.due("it is a change too", 3, x.undoCount());
        Check.due("it has ended", ENDED, x.stateOf(1));
        Check.due("release that frees for none", 0, x.release(2));
        Check.due("carrierOf a released call", NOT_FOUND, x.carrierOf(2));
    }

    private static void refusedReleases() {
        SatelliteExchange x = Check.loaded(NARROW + "call a b 5 198 1;call b c 1 98 9;call c d 9 150 9;");
        x.release(2);
        x.advance(1);
        String before = Check.picture(x);
        for (int k : new int[] {-1, 3, 16, Integer.MIN_VALUE, Integer.MAX_VALUE}) {
            Check.due("release " + k, NOT_FOUND, x.release(k));
        }
        Check.due("release of a call that ended by itself", NOT_FOUND, x.release(0));
        Check.due("release of a released call", NOT_FOUND, x.release(2));
        Check.unchanged("refused releases", before, x);
        Check.due("release in a new exchange", NOT_FOUND, new SatelliteExchange().release(0));
    }

    private static void settings() {
        SatelliteExchange x = new SatelliteExchange();
        int[] initial = {300, 20, 50};
        int[] least = {0, 1, 1};
        int[] greatest = {999, 100, 100};
        for (int i = 0; i < 3; i++) {
            int setting = 4 + i;
            Check.due("setSetting to the least", initial[i], x.setSetting(setting, least[i]));
            Check.due("getSetting", least[i], x.getSetting(setting));
            Check.due("setSetting to the greatest", least[i], x.setSetting(setting, greatest[i]));
            Check.due("getSetting", greatest[i], x.getSetting(setting));
            Check.due("setSetting to the same", greatest[i], x.setSetting(setting, greatest[i]));
            Check.due("each is a change", 3 * (i + 1), x.undoCount());
            String before = Check.picture(x);
            for (int value : new int[] {least[i] - 1, greatest[i] + 1, Integer.MIN_VALUE, Integer.MAX_VALUE}) {
                Check.due("setSetting " + setting + " to " + value, BAD_VALUE, x.setSetting(setting, value));
            }
            Check.unchanged("setSetting out of range", before, x);
        }
        String before = Check.picture(x);
        for (int setting : new int[] {0, 1, 2, 3, -1, 7, Integer.MIN_VALUE, Integer.MAX_VALUE}) {
            Check.due("setSetting " + setting, BAD_VALUE, x.setSetting(setting, setting == 0 ? 1000 : 50));
        }
        Check.unchanged("setSetting of another setting", before, x);
    }

    private static void compacting() {
        SatelliteExchange x = Check.loaded("carriers 2;" + NARROW
                + "call a b 1 49 9;call b a 2 59 9;call c d 3 29 9;call d c 3 39 9;");
        // carrier 0: call 0 at 1, call 2 at 51; carrier 1: call 1 at 1, call 3 at 61
        Check.due("start of call 2", 51, x.startOf(2));
        Check.due("start of call 3", 61, x.startOf(3));
        Check.due("compact by priority moves all", 4, x.compact());
        int[] carriers = {1, 0, 0, 1};
        int[] starts = {41, 31, 1, 1};
        for (int k = 0; k < 4; k++) {
            Check.due("carrier of call " + k, carriers[k], x.carrierOf(k));
            Check.due("start of call " + k, starts[k], x.startOf(k));
        }
        Check.due("compact again moves none", 0, x.compact());
        Check.due("but is a change", 2, x.undoCount());
        x.release(2);
        Check.due("compact after a release: another carrier counts, with the same start too", 3, x.compact());
        Check.due("the first has another carrier", 0, x.carrierOf(3));
        Check.due("and the same start", 1, x.startOf(3));
        Check.due("the second has another carrier", 1, x.carrierOf(1));
        Check.due("and another start", 1, x.startOf(1));
        Check.due("the third has another carrier", 0, x.carrierOf(0));
        Check.due("and the same start", 41, x.startOf(0));
        Check.due("compact of a new exchange", 0, new SatelliteExchange().compact());
    }

    private static void compactingServes() {
        SatelliteExchange x = Check.loaded(NARROW + "call a b 0 49 9;call b c 0 49 9;call c d 0 49 9;call d a 0 30 9;"
                + "call a b 9 60 4;");
        x.advance(3);
        Check.due("a release that frees too little", 0, x.release(1));
        Check.due("the first in the queue waits", WAITING, x.stateOf(4));
        Check.due("compact: those that moved, not those that began", 2, x.compact());
        Check.due("the queue is served", ACTIVE, x.stateOf(4));
        Check.due("behind the others", 132, x.startOf(4));
        Check.due("in this frame", 7, x.endOf(4));
        Check.due("it waited", 3, x.waitOf(4));
        Check.due("start of a moved call", 51, x.startOf(2));
        Check.due("an ended call stays ended", ENDED, x.stateOf(1));
    }

    private static void compactingKeepsTimes() {
        SatelliteExchange x = Check.loaded(NARROW + "set level 999;call a b 0 150 3;call b c 0 150 9;call c d 4 30 9;");
        x.advance(4);
        Check.due("compact", 2, x.compact());
        Check.due("order by priority", 1, x.startOf(2));
        Check.due("then the other", 32, x.startOf(1));
        Check.due("the frame of the end stays", 12, x.endOf(1));
        Check.due("and the one of the other", 9, x.endOf(2));
        Check.due("and the wait", 3, x.waitOf(1));
        Check.due("degraded frames stay", 1, x.degradedFrames(1));
        x.advance(1);
        Check.due("a compacted call goes on being degraded", 2, x.degradedFrames(1));
    }

    private static void compactingFails() {
        SatelliteExchange x = Check.loaded("carriers 2;" + NARROW
                + "call a b 9 116 9;call b c 1 116 9;call c d 8 77 9;call d a 8 77 9;call a c 0 190 5;");
        x.setSetting(4, 1);
        String before = Check.picture(x);
        Check.due("compact without room for a call", FULL, x.compact());
        Check.unchanged("compact without room", before, x);
        Check.due("undoCount", 1, x.undoCount());
    }

    private static SatelliteExchange busy() {
        SatelliteExchange x = Check.loaded(NARROW + "call a b 1 90 4;call b c 2 60 9;call c d 3 40 9;call d a 3 39 5;");
        x.advance(3);
        return x;
    }

    private static void undoingEach() {
        SatelliteExchange x = busy();
        String before = Check.picture(x);
        Check.due("request that waits", 4, x.request(0, 1, 5, 100, 9));
        Check.due("undo of a request", 1, x.undo());
        Check.unchanged("request and undo", before, x);
        x.request(2, 3, 0, 3, 9);
        x.undo();
        Check.unchanged("request of an active call and undo", before, x);
        x.release(0);
        x.undo();
        Check.unchanged("release and undo", before, x);
        x.advance(200);
        Check.due("undo of advance", 1, x.undo());
        Check.unchanged("advance and undo", before, x);
        x.setSetting(5, 1);
        x.undo();
        Check.unchanged("setSetting and undo", before, x);
        x.acquire(0);
        x.undo();
        Check.unchanged("acquire and undo", before, x);
        x.compact();
        x.undo();
        Check.unchanged("compact and undo", before, x);
        Check.due("undo of the advance before", 0, x.undo());
        Check.due("frame 0", 0, x.now());
        Check.due("undo of nothing", NOT_FOUND, x.undo());
        Check.due("undoCount of nothing", 0, x.undoCount());
    }

    private static void undoingMany() {
        SatelliteExchange x = new SatelliteExchange();
        Check.load(x, STATIONS);
        String[] pictures = new String[13];
        for (int i = 0; i < 13; i++) {
            pictures[i] = Check.picture(x);
            Check.due("undoCount of " + i + " changes", Math.min(i, 10), x.undoCount());
            x.advance(1 + i % 3);
        }
        for (int i = 12; i > 2; i--) {
            Check.due("undo to " + i, i - 3, x.undo());
            Check.that("the picture of " + i, withoutCount(Check.picture(x), i - 3)
                    .equals(withoutCount(pictures[i], Math.min(i, 10))));
        }
        Check.due("undo beyond the kept ones", NOT_FOUND, x.undo());
        Check.due("now", 6, x.now());
        x.setSetting(4, 7);
        Check.due("a change behind undos is kept", 1, x.undoCount());
        Check.due("and can be undone", 0, x.undo());
        Check.due("level", 300, x.getSetting(4));
    }

    /** A picture without its tenth number, the undoCount, which must be the one given. */
    private static String withoutCount(String picture, int count) {
        String[] values = picture.split(" ");
        Check.due("undoCount in the picture", count, Integer.parseInt(values[9]));
        values[9] = "";
        return String.join(" ", values);
    }

    private static void undoingBetween() {
        SatelliteExchange x = busy();
        x.request(9, 9, 0, 1, 1);
        x.release(77);
        x.advance(0);
        x.setSetting(0, 500);
        x.acquire(9);
        x.load(5);
        x.carriersNeeded();
        x.framesToWait(0);
        x.callsToDrop(0);
        Check.due("what changes nothing is not kept", 1, x.undoCount());
        x.feed(0x20202020, 0x20202020, 0x20202020, 0x20202020, 0x20202020);
        Check.due("feed is no change", 1, x.undoCount());
        Check.due("undo", 0, x.undo());
        Check.due("undo leaves the buffer", 40, x.feed(0x20202020, 0x20202020, 0x20202020, 0x20202020, 0x20202020));
        x.advance(1);
        Check.due("load behind a change", 0, x.load(40));
        Check.due("nothing to undo behind a load", NOT_FOUND, x.undo());
    }
}
