/** Promises 17 to 27, 38, 48 and 54 to 56. */
public final class CallTest {
    private static final int NOT_FOUND = -1;
    private static final int WAITING = 0, ACTIVE = 1, ENDED = 2;
    private static final String WORLD = "set length 400;set guard 10;set reference 30;station a 300 4 300 340;"
            + "station b 100 - 2 320 400;station c 0 0 310 310;rain a 2 3 25;call a b 5 150 3;call c a 1 100 2;"
            + "call b c 9 100 4;";
    /** One call at most has room in its frame. */
    private static final String NARROW = "set length 200;set guard 0;set reference 1;set preamble 1;"
            + "station a 0 0 300 300;station b 0 0 300 300;station c 0 0 300 300;";

    private CallTest() {
    }

    public static void main(String[] args) {
        wrongCalls();
        lives();
        endAndWait();
        releasedWhileWaiting();
        sendOffsets();
        margins();
        degradedAndNow();
        beginningsDoNotDegrade();
        degradedFramesStay();
        clearFrames();
        clearFramesAtTheirEdges();
        conflicting();
        waits();
        waitsAtTheirEdges();
        Check.end();
    }

    private static void wrongCalls() {
        for (SatelliteExchange x : new SatelliteExchange[] {new SatelliteExchange(), Check.loaded(WORLD)}) {
            int n = x.callCount();
            for (int k : new int[] {-1, n, n + 1, 16, Integer.MIN_VALUE, Integer.MAX_VALUE}) {
                Check.outOfBounds("stateOf " + k, () -> x.stateOf(k));
                Check.outOfBounds("senderOf " + k, () -> x.senderOf(k));
                Check.outOfBounds("receiverOf " + k, () -> x.receiverOf(k));
                Check.outOfBounds("carrierOf " + k, () -> x.carrierOf(k));
                Check.outOfBounds("startOf " + k, () -> x.startOf(k));
                Check.outOfBounds("burstOf " + k, () -> x.burstOf(k));
                Check.outOfBounds("sendOffset " + k, () -> x.sendOffset(k));
                Check.outOfBounds("endOf " + k, () -> x.endOf(k));
                Check.outOfBounds("waitOf " + k, () -> x.waitOf(k));
                Check.outOfBounds("marginOf " + k, () -> x.marginOf(k));
                Check.outOfBounds("degradedFrames " + k, () -> x.degradedFrames(k));
                Check.outOfBounds("clearFrame " + k, () -> x.clearFrame(k));
                Check.outOfBounds("conflicts " + k, () -> x.conflicts(k));
                Check.outOfBounds("framesToWait " + k, () -> x.framesToWait(k));
                Check.outOfBounds("priorityOf " + k, () -> x.priorityOf(k));
            }
        }
    }

    private static void lives() {
        SatelliteExchange x = Check.loaded(WORLD);
        int[] senders = {0, 2, 1};
        int[] receivers = {1, 0, 2};
        int[] priorities = {5, 1, 9};
        int[] bursts = {170, 120, 120};
        int[][] states = {{ACTIVE, ACTIVE, WAITING}, {ACTIVE, ACTIVE, WAITING}, {ACTIVE, ENDED, ACTIVE},
            {ENDED, ENDED, ACTIVE}, {ENDED, ENDED, ACTIVE}, {ENDED, ENDED, ACTIVE}, {ENDED, ENDED, ENDED}};
        int[] starts = {40, 220, 220};
        int[] ends = {3, 2, 6};
        for (int f = 0; f < states.length; f++) {
            for (int k = 0; k < 3; k++) {
                String call = "call " + k + " in frame " + f + ": ";
                boolean active = states[f][k] == ACTIVE;
                Check.due(call + "stateOf", states[f][k], x.stateOf(k));
                Check.due(call + "senderOf", senders[k], x.senderOf(k));
                Check.due(call + "receiverOf", receivers[k], x.receiverOf(k));
                Check.due(call + "priorityOf", priorities[k], x.priorityOf(k));
                Check.due(call + "burstOf", bursts[k], x.burstOf(k));
                Check.due(call + "carrierOf", active ? 0 : NOT_FOUND, x.carrierOf(k));
                Check.due(call + "startOf", active ? starts[k] : NOT_FOUND, x.startOf(k));
                Check.due(call + "endOf", active ? ends[k] : NOT_FOUND, x.endOf(k));
            }
            x.advance(1);
        }
        Check.due("waitOf of a call that waited, when it has ended", 2, x.waitOf(2));
        Check.due("waitOf of a call that did not wait", 0, x.waitOf(0));
        x = Check.loaded("carriers 2;station a 0 0 0 0;station b 0 0 0 0;station c 0 0 0 0;station d 0 0 0 0;"
                + "call a b 0 1 1;call c d 9 2000 1;call c d 0 1 9999;");
        Check.due("a call that does not fit at all waits", WAITING, x.stateOf(1));
        Check.due("its burst", 2020, x.burstOf(1));
        Check.due("the other carrier has the same start", 60, x.startOf(2));
        Check.due("the other carrier", 1, x.carrierOf(2));
        Check.due("priority 0", 0, x.priorityOf(0));
        Check.due("priority 9", 9, x.priorityOf(1));
    }

    private static void endAndWait() {
        SatelliteExchange x = Check.loaded(NARROW + "call a b 0 198 9999;call b c 0 198 1;");
        Check.due("endOf", 9999, x.endOf(0));
        x.advance(200);
        Check.due("waitOf while waiting", 200, x.waitOf(1));
        x.request(0, 2, 5, 1, 7);
        x.advance(4);
        Check.due("waitOf counts from the request", 4, x.waitOf(2));
        Check.due("waitOf of the active one", 0, x.waitOf(0));
        x.release(0);
        Check.due("waitOf when it became active", 4, x.waitOf(2));
        Check.due("endOf counts from there", 211, x.endOf(2));
        x.advance(3);
        Check.due("waitOf stays", 4, x.waitOf(2));
        x.release(2);
        Check.due("waitOf stays after a release", 4, x.waitOf(2));
        Check.due("waitOf of the last one", 207, x.waitOf(1));
        x.advance(1);
        Check.due("it has ended by itself", ENDED, x.stateOf(1));
        x.request(0, 1, 0, 1, 9999);
        Check.due("endOf above 9999", 208 + 9999, x.endOf(3));
        for (int i = 0; i < 48; i++) {
            x.advance(200);
        }
        x.advance(191);
        Check.due("now", 9999, x.now());
        Check.due("such a call is active to the end", ACTIVE, x.stateOf(3));
    }

    private static void releasedWhileWaiting() {
        SatelliteExchange x = Check.loaded(NARROW + "call a b 0 198 10;call b c 0 198 1;");
        x.advance(3);
        Check.due("waitOf", 3, x.waitOf(1));
        Check.due("release of a waiting call", 0, x.release(1));
        Check.due("its state", ENDED, x.stateOf(1));
        Check.due("its wait", NOT_FOUND, x.waitOf(1));
        x.advance(9);
        Check.due("its state stays", ENDED, x.stateOf(1));
        Check.due("its wait stays unknown", NOT_FOUND, x.waitOf(1));
    }

    private static void sendOffsets() {
        SatelliteExchange x = Check.loaded(WORLD);
        Check.due("sendOffset below 0", 140, x.sendOffset(0));
        Check.due("sendOffset without delay", 220, x.sendOffset(1));
        Check.due("sendOffset of a waiting call", NOT_FOUND, x.sendOffset(2));
        x.advance(2);
        Check.due("sendOffset", 120, x.sendOffset(2));
        Check.due("sendOffset of an ended call", NOT_FOUND, x.sendOffset(1));
        x = Check.loaded("set length 200;set guard 0;set reference 1;station a 5000 0 0 0;station b 1 0 0 0;"
                + "station c 2 0 0 0;call a b 0 1 1;");
        Check.due("sendOffset over 25 frames", 1, x.sendOffset(0));
        x.advance(1);
        x.request(1, 0, 0, 1, 1);
        Check.due("sendOffset of 0", 0, x.sendOffset(1));
        x.advance(1);
        x.request(2, 0, 0, 1, 1);
        Check.due("sendOffset of LENGTH - 1", 199, x.sendOffset(2));
    }

    private static void margins() {
        SatelliteExchange x = Check.loaded("set level 290;set step 20;station a 0 0 300 340;station b 0 0 320 400;"
                + "rain a 2 3 25;rain b 3 4 7;call a b 0 10 99;call b a 0 10 99;call b a 0 2000 9;call a b 0 10 1;");
        // Powers of a: 300 300 320 325 305 300; of b: 320 320 320 327 327 320.
        int[] fromA = {10, 10, 5, 3, 8, 10};
        int[] fromB = {30, 30, 5, 5, 30, 30};
        for (int f = 0; f < fromA.length; f++) {
            Check.due("marginOf from a in frame " + f, fromA[f], x.marginOf(0));
            Check.due("marginOf from b in frame " + f, fromB[f], x.marginOf(1));
            Check.due("marginOf of a waiting call in frame " + f, fromB[f], x.marginOf(2));
            Check.due("marginOf of a call that ends in frame 1, frame " + f, fromA[f], x.marginOf(3));
            x.advance(1);
        }
        x.setSetting(4, 0);
        Check.due("marginOf with level 0", 300, x.marginOf(0));
        x.setSetting(4, 999);
        Check.due("marginOf with level 999", -699, x.marginOf(0));
    }

    private static void degradedAndNow() {
        SatelliteExchange x = Check.loaded(WORLD);
        int[] due = {0, 0, 1, 1, 1};
        int[] degraded = {0, 0, 1, 0, 0};
        for (int f = 0; f < due.length; f++) {
            Check.due("degradedFrames of call 0 in frame " + f, due[f], x.degradedFrames(0));
            Check.due("degradedFrames of call 2 in frame " + f, 0, x.degradedFrames(2));
            Check.due("degradedNow in frame " + f, degraded[f], x.degradedNow());
            x.advance(1);
        }
        x = Check.loaded("carriers 2;set level 301;station a 0 0 300 300;station b 0 0 301 301;call a b 0 9 9;"
                + "call b a 0 9 9;call a b 0 9 4;call a b 0 2000 9;");
        Check.due("degradedNow in frame 0", 5, x.degradedNow());
        Check.due("frame 0 does not count", 0, x.degradedFrames(0));
        x.advance(1);
        x.setSetting(4, 300);
        Check.due("a margin of 0 is none below 0", 0, x.degradedNow());
        x.advance(1);
        x.setSetting(4, 302);
        Check.due("degradedNow counts active calls alone", 7, x.degradedNow());
        x.advance(1);
        Check.due("degradedFrames of call 0", 2, x.degradedFrames(0));
        Check.due("degradedFrames of call 1", 1, x.degradedFrames(1));
        x.advance(1);
        Check.due("a call that ends does not count in that frame", 2, x.degradedFrames(2));
        Check.due("the other one does", 3, x.degradedFrames(0));
        Check.due("a waiting call never counts", 0, x.degradedFrames(3));
        Check.due("degradedNow without the ended one", 3, x.degradedNow());
    }

    private static void beginningsDoNotDegrade() {
        SatelliteExchange x = Check.loaded(NARROW + "set level 400;call a b 0 198 2;call b c 0 198 3;");
        int[] due = {0, 0, 0, 1, 2, 2};
        for (int f = 0; f < due.length; f++) {
            Check.due("degradedFrames of the one that waited, frame " + f, due[f], x.degradedFrames(1));
            Check.due("degradedFrames of the first one, frame " + f, f == 0 ? 0 : 1, x.degradedFrames(0));
            x.advance(1);
        }
    }

    private static void degradedFramesStay() {
        SatelliteExchange x = Check.loaded(NARROW + "set level 400;call a b 0 9 4;call a b 0 9 9;call a b 0 9 9;");
        x.advance(3);
        x.release(1);
        Check.due("degradedFrames of a released call", 3, x.degradedFrames(1));
        x.advance(1);
        Check.due("degradedFrames of a call that ended by itself", 3, x.degradedFrames(0));
        Check.due("degradedFrames of a released call, later", 3, x.degradedFrames(1));
        Check.due("degradedFrames of one that goes on", 4, x.degradedFrames(2));
        Check.due("degradedNow without the ended ones", 4, x.degradedNow());
    }

    private static void clearFrames() {
        SatelliteExchange x = Check.loaded(WORLD);
        Check.due("clearFrame when it is clear", 0, x.clearFrame(0));
        x.advance(2);
        Check.due("clearFrame in rain", 3, x.clearFrame(0));
        Check.due("clearFrame of an ended call, rain at its receiver", 4, x.clearFrame(1));
        x = Check.loaded("set step 10;station a 0 0 300 400;station b 0 0 300 300;rain a 0 9 45;rain b 4 5 9;"
                + "call a b 0 10 1;call a b 0 2000 9;call b a 0 10 1;");
        // Powers of a: 300 310 320 330 340 345; margins: -45 -35 -25 -15 -14 -9 0.
        Check.due("clearFrame by power", 6, x.clearFrame(0));
        Check.due("clearFrame of a waiting call", 6, x.clearFrame(1));
        Check.due("clearFrame the other way: rain at the receiver", 10, x.clearFrame(2));
        x.advance(3);
        Check.due("clearFrame of an ended call", 6, x.clearFrame(0));
        x.advance(3);
        Check.due("clearFrame, the margin is 0", 6, x.clearFrame(0));
        Check.due("its margin", 0, x.marginOf(0));
    }

    private static void clearFramesAtTheirEdges() {
        String stations = "station a 0 0 300 300;station b 0 0 300 300;call a b 0 1 1;";
        SatelliteExchange x = Check.loaded(stations + "rain a 0 199 1;");
        Check.due("clearFrame 200 frames from now", 200, x.clearFrame(0));
        x = Check.loaded(stations + "rain a 0 200 1;");
        Check.due("clearFrame 201 frames from now", NOT_FOUND, x.clearFrame(0));
        x.advance(1);
        Check.due("clearFrame a frame later", 201, x.clearFrame(0));
        x = Check.loaded(stations + "rain b 9000 9998 1;");
        Check.advanceTo(x, 9900);
        Check.due("clearFrame 9999", 9999, x.clearFrame(0));
        x.advance(99);
        Check.due("clearFrame now, at the end", 9999, x.clearFrame(0));
        x = Check.loaded(stations + "rain b 9000 9999 1;");
        Check.advanceTo(x, 9900);
        Check.due("clearFrame beyond 9999", NOT_FOUND, x.clearFrame(0));
        x.advance(99);
        Check.due("clearFrame at the end", NOT_FOUND, x.clearFrame(0));
    }

    private static void conflicting() {
        SatelliteExchange x = Check.loaded("carriers 3;set length 2000;station a 0 0 0 0;station b 0 0 0 0;station c 0 0 0 0;"
                + "station d 0 0 0 0;call a b 0 100 9;call c d 0 100 8;call b a 0 100 9;call d c 0 100 7;"
                + "call a d 0 300 9;call b c 0 2000 9;");
        // Carriers at 60: 0, 1, 2. Call 3 meets neither senders nor receivers, but all carriers are taken: at 190.
        Check.due("carrier of call 3", 0, x.carrierOf(3));
        Check.due("start of call 3", 190, x.startOf(3));
        Check.due("carrier of call 4", 1, x.carrierOf(4));
        Check.due("conflicts of call 0: carrier, sender", 1 << 3 | 1 << 4, x.conflicts(0));
        Check.due("conflicts of call 1: carrier and receiver", 1 << 4, x.conflicts(1));
        Check.due("conflicts of call 2: none", 0, x.conflicts(2));
        Check.due("conflicts of call 3", 1, x.conflicts(3));
        Check.due("conflicts of call 4", 3, x.conflicts(4));
        Check.due("conflicts of a waiting call", 0, x.conflicts(5));
        x.release(0);
        Check.due("conflicts of an ended call", 0, x.conflicts(0));
        Check.due("conflicts with an ended call", 0, x.conflicts(3));
        Check.due("conflicts with the one left", 2, x.conflicts(4));
    }

    private static void waits() {
        SatelliteExchange x = Check.loaded(WORLD);
        Check.due("framesToWait", 2, x.framesToWait(2));
        Check.due("framesToWait of an active call", NOT_FOUND, x.framesToWait(0));
        Check.due("framesToWait leaves the exchange", 0, x.now());
        x.advance(1);
        Check.due("framesToWait a frame later", 1, x.framesToWait(2));
        x.advance(1);
        Check.due("framesToWait of one that began", NOT_FOUND, x.framesToWait(2));
        Check.due("framesToWait of an ended call", NOT_FOUND, x.framesToWait(1));
        x = Check.loaded(NARROW + "call a b 0 198 5;call b c 1 198 7;call c b 2 198 11;call c a 1 198 1;");
        Check.due("framesToWait of the first in the queue", 5, x.framesToWait(2));
        Check.due("framesToWait of the second", 16, x.framesToWait(1));
        Check.due("framesToWait of the third", 23, x.framesToWait(3));
        x.release(2);
        Check.due("framesToWait of a released call", NOT_FOUND, x.framesToWait(2));
        Check.due("framesToWait without it", 5, x.framesToWait(1));
        x = Check.loaded("station a 0 0 0 0;station b 0 0 0 0;call a b 0 2000 1;call a b 0 1 1;");
        Check.due("framesToWait of a call that never fits", NOT_FOUND, x.framesToWait(0));
    }

    private static void waitsAtTheirEdges() {
        SatelliteExchange x = Check.loaded(NARROW + "call a b 0 198 200;call b c 0 198 1;");
        Check.due("framesToWait of 200", 200, x.framesToWait(1));
        x = Check.loaded(NARROW + "call a b 0 198 201;call b c 0 198 1;");
        Check.due("framesToWait of 201", NOT_FOUND, x.framesToWait(1));
        x.advance(1);
        Check.due("framesToWait of 201 a frame later", 200, x.framesToWait(1));
        x = Check.loaded(NARROW + "call a b 0 198 9999;call b c 0 198 1;");
        Check.advanceTo(x, 9900);
        Check.due("framesToWait up to 9999", 99, x.framesToWait(1));
        x = Check.loaded(NARROW);
        x.advance(1);
        x.request(0, 1, 0, 198, 9999);
        x.request(1, 2, 0, 198, 1);
        Check.advanceTo(x, 9900);
        Check.due("framesToWait beyond 9999", NOT_FOUND, x.framesToWait(1));
        x.advance(99);
        Check.due("framesToWait at the end", NOT_FOUND, x.framesToWait(1));
    }
}
