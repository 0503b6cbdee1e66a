/** Promises 17 to 27, 38, 48 and 54 to 56: the sentences that name a bound, each with a test of its own. */
public final class CallBoundsTest {
    private static final int NOT_FOUND = -1;
    private static final int WAITING = 0, ACTIVE = 1, ENDED = 2;
    private static final int LEVEL = 4;
    private static final String FOUR = "station a 0 0 300 300;station b 0 0 300 300;station c 0 0 300 300;"
            + "station d 0 0 300 300;";
    /** Bursts stand from 1 to 200, side by side; each is 1 longer than its call. */
    private static final String NARROW = "set length 200;set guard 0;set reference 1;set preamble 1;" + FOUR;

    private CallBoundsTest() {
    }

    public static void main(String[] args) {
        indexes();
        activeCallsAlone();
        statesOverTheFrames();
        holdsAtTheirBounds();
        endsAboveTheLastFrame();
        bursts();
        sendOffsets();
        sendOffsetsInLongFrames();
        waits();
        waitsOfReleasedCalls();
        marginsAtZero();
        marginsByBothFades();
        marginsOfAllStates();
        degradedAtZero();
        degradedWhileActive();
        degradedNowAtItsBounds();
        clearFramesAhead();
        clearFramesAtTheEnd();
        clearFramesByPower();
        clearFramesOfAllStates();
        conflictsAtTheirBounds();
        conflictsByStations();
        framesToWaitAtTheirBounds();
        framesToWaitAtTheEnd();
        framesToWaitInTheQueue();
        Check.end();
    }

    private static void indexes() {
        for (int n : new int[] {0, 1, 2, 15, 16}) {
            SatelliteExchange x = Check.loaded(NARROW + "call b c 7 3 9;".repeat(n));
            for (int k = 0; k < n; k++) {
                String which = " of " + k + " of " + n;
                Check.due("stateOf" + which, ACTIVE, x.stateOf(k));
                Check.due("senderOf" + which, 1, x.senderOf(k));
                Check.due("receiverOf" + which, 2, x.receiverOf(k));
                Check.due("priorityOf" + which, 7, x.priorityOf(k));
                Check.due("carrierOf" + which, 0, x.carrierOf(k));
                Check.due("startOf" + which, 1 + 4 * k, x.startOf(k));
                Check.due("burstOf" + which, 4, x.burstOf(k));
                Check.due("sendOffset" + which, 1 + 4 * k, x.sendOffset(k));
                Check.due("endOf" + which, 9, x.endOf(k));
                Check.due("waitOf" + which, 0, x.waitOf(k));
                Check.due("marginOf" + which, 0, x.marginOf(k));
                Check.due("degradedFrames" + which, 0, x.degradedFrames(k));
                Check.due("clearFrame" + which, 0, x.clearFrame(k));
                Check.due("conflicts" + which, ((1 << n) - 1) & ~(1 << k), x.conflicts(k));
                Check.due("framesToWait" + which, NOT_FOUND, x.framesToWait(k));
            }
            for (int k : new int[] {-1, n, n + 1, 16, 17, 32, Integer.MIN_VALUE, Integer.MAX_VALUE}) {
                noCall(x, k, " of " + k + " of " + n);
            }
        }
    }

    private static void noCall(SatelliteExchange x, int k, String which) {
        Check.outOfBounds("stateOf" + which, () -> x.stateOf(k));
        Check.outOfBounds("senderOf" + which, () -> x.senderOf(k));
        Check.outOfBounds("receiverOf" + which, () -> x.receiverOf(k));
        Check.outOfBounds("priorityOf" + which, () -> x.priorityOf(k));
        Check.outOfBounds("carrierOf" + which, () -> x.carrierOf(k));
        Check.outOfBounds("startOf" + which, () -> x.startOf(k));
        Check.outOfBounds("burstOf" + which, () -> x.burstOf(k));
        Check.outOfBounds("sendOffset" + which, () -> x.sendOffset(k));
        Check.outOfBounds("endOf" + which, () -> x.endOf(k));
        Check.outOfBounds("waitOf" + which, () -> x.waitOf(k));
        Check.outOfBounds("marginOf" + which, () -> x.marginOf(k));
        Check.outOfBounds("degradedFrames" + which, () -> x.degradedFrames(k));
        Check.outOfBounds("clearFrame" + which, () -> x.clearFrame(k));
        Check.outOfBounds("conflicts" + which, () -> x.conflicts(k));
        Check.outOfBounds("framesToWait" + which, () -> x.framesToWait(k));
    }

    /** What only an active call has, and what every call keeps. */
    private static void activeCallsAlone() {
        SatelliteExchange x = Check.loaded(NARROW + "call a b 5 99 9;call b c 4 98 1;call c d 3 150 9;call d a 2 150 9;"
                + "call a c 1 2 9;");
        x.advance(1);
        x.release(4);
        x.release(3);
        // Call 0 is active, call 1 ended by itself, call 2 waits, call 3 was released waiting, call 4 when active.
        int[] states = {ACTIVE, ENDED, WAITING, ENDED, ENDED};
        for (int k = 0; k < 5; k++) {
            boolean active = k == 0;
            Check.due("stateOf " + k, states[k], x.stateOf(k));
            Check.due("carrierOf " + k, active ? 0 : NOT_FOUND, x.carrierOf(k));
            Check.due("startOf " + k, active ? 1 : NOT_FOUND, x.startOf(k));
            Check.due("sendOffset " + k, active ? 1 : NOT_FOUND, x.sendOffset(k));
            Check.due("endOf " + k, active ? 9 : NOT_FOUND, x.endOf(k));
            Check.due("conflicts " + k, 0, x.conflicts(k));
            Check.due("priorityOf " + k, 5 - k, x.priorityOf(k));
            Check.due("senderOf " + k, k % 4, x.senderOf(k));
            Check.due("receiverOf " + k, k == 4 ? 2 : (k + 1) % 4, x.receiverOf(k));
            Check.due("marginOf " + k, 0, x.marginOf(k));
        }
        Check.due("framesToWait of the waiting one", 8, x.framesToWait(2));
        for (int k : new int[] {0, 1, 3, 4}) {
            Check.due("framesToWait of " + k + ", which does not wait", NOT_FOUND, x.framesToWait(k));
        }
    }

    private static void statesOverTheFrames() {
        SatelliteExchange x = Check.loaded(NARROW + "call a b 0 198 2;call b c 0 198 1;call c d 0 198 9999;");
        int[][] due = {{ACTIVE, WAITING, WAITING}, {ACTIVE, WAITING, WAITING}, {ENDED, ACTIVE, WAITING},
            {ENDED, ENDED, ACTIVE}, {ENDED, ENDED, ACTIVE}};
        for (int f = 0; f < due.length; f++) {
            for (int k = 0; k < 3; k++) {
                Check.due("stateOf " + k + " in frame " + f, due[f][k], x.stateOf(k));
            }
            x.advance(1);
        }
        Check.due("endOf the last", 10002, x.endOf(2));
    }

    /** A call that is assigned in frame f ends in frame f + hold: not one frame before. */
    private static void holdsAtTheirBounds() {
        for (int begin : new int[] {0, 1, 100}) {
            for (int hold : new int[] {1, 2, 199, 200, 9998, 9999}) {
                SatelliteExchange x = Check.loaded(NARROW);
                Check.advanceTo(x, begin);
                x.request(0, 1, 0, 1, hold);
                int end = begin + hold;
                Check.due("endOf with hold " + hold + " from " + begin, end, x.endOf(0));
                Check.due("nextEnd with hold " + hold + " from " + begin, end, x.nextEnd());
                Check.advanceTo(x, Math.min(9999, end - 1));
                Check.due("state in the frame before", ACTIVE, x.stateOf(0));
                Check.due("endOf in the frame before", end, x.endOf(0));
                if (end <= 9999) {
                    x.advance(1);
                    Check.due("state in the frame of the end", ENDED, x.stateOf(0));
                    Check.due("endOf in the frame of the end", NOT_FOUND, x.endOf(0));
                }
            }
        }
    }

    private static void endsAboveTheLastFrame() {
        SatelliteExchange x = Check.loaded(NARROW);
        Check.advanceTo(x, 9998);
        x.request(0, 1, 0, 1, 1);
        x.request(0, 1, 0, 1, 2);
        Check.due("endOf at the last frame", 9999, x.endOf(0));
        Check.due("endOf one above", 10000, x.endOf(1));
        x.advance(1);
        Check.due("the first has ended", ENDED, x.stateOf(0));
        Check.due("the second has not", ACTIVE, x.stateOf(1));
        x.request(0, 1, 0, 1, 9999);
        Check.due("the greatest endOf", 19998, x.endOf(2));
        Check.due("its wait", 0, x.waitOf(2));
    }

    private static void bursts() {
        for (int preamble : new int[] {1, 20, 200}) {
            String two = "set preamble " + preamble + ";" + FOUR + "call a b 0 1 1;call a b 0 2000 1;call a b 0 1999 1;";
            SatelliteExchange x = Check.loaded(two);
            Check.due("burstOf 1 symbol", preamble + 1, x.burstOf(0));
            Check.due("burstOf 2000 symbols, waiting", preamble + 2000, x.burstOf(1));
            Check.due("burstOf 1999 symbols, waiting", preamble + 1999, x.burstOf(2));
            x.advance(1);
            Check.due("burstOf an ended call", preamble + 1, x.burstOf(0));
        }
    }

    private static void sendOffsets() {
        // The burst begins at 1; frames have 200 symbols.
        int[][] due = {{0, 1}, {1, 0}, {2, 199}, {3, 198}, {199, 2}, {200, 1}, {201, 0}, {202, 199}, {400, 1}, {401, 0},
            {402, 199}, {4999, 2}, {5000, 1}};
        for (int[] one : due) {
            SatelliteExchange x = Check.loaded("set length 200;set guard 0;set reference 1;station a " + one[0]
                    + " 0 0 0;station b 777 0 0 0;call a b 0 1 1;");
            Check.due("startOf", 1, x.startOf(0));
            Check.due("sendOffset with a delay of " + one[0], one[1], x.sendOffset(0));
        }
    }

    private static void sendOffsetsInLongFrames() {
        int[][] due = {{0, 60}, {59, 1}, {60, 0}, {61, 4999}, {4999, 61}, {5000, 60}};
        for (int[] one : due) {
            SatelliteExchange x = Check.loaded("set length 5000;station a " + one[0]
                    + " 0 0 0;station b 0 0 0 0;call a b 0 1 1;");
            Check.due("sendOffset with a delay of " + one[0] + " in a long frame", one[1], x.sendOffset(0));
        }
    }

    private static void waits() {
        SatelliteExchange x = Check.loaded(NARROW + "call a b 0 198 3;call b c 0 198 9999;");
        for (int f = 0; f <= 3; f++) {
            Check.due("waitOf in frame " + f, f, x.waitOf(1));
            Check.due("waitOf of the active one in frame " + f, 0, x.waitOf(0));
            x.advance(1);
        }
        Check.due("waitOf of one that waited", 3, x.waitOf(1));
        x.request(2, 3, 0, 198, 1);
        Check.due("waitOf in the frame of the request", 0, x.waitOf(2));
        Check.advanceTo(x, 9999);
        Check.due("waitOf in the last frame", 9995, x.waitOf(2));
        Check.due("waitOf stays", 3, x.waitOf(1));
        x.release(1);
        Check.due("waitOf when it became active in the last frame", 9995, x.waitOf(2));
        Check.due("waitOf stays when it has ended", 3, x.waitOf(1));
    }

    private static void waitsOfReleasedCalls() {
        SatelliteExchange x = Check.loaded(NARROW + "call a b 0 198 9;call b c 0 198 9;call c d 0 198 9;");
        x.release(1);
        Check.due("waitOf of one released in the frame of its request", NOT_FOUND, x.waitOf(1));
        x.advance(2);
        x.release(2);
        Check.due("waitOf of one released later", NOT_FOUND, x.waitOf(2));
        x.release(0);
        Check.due("waitOf of one released when it was active", 0, x.waitOf(0));
        x.request(0, 1, 0, 1, 1);
        x.release(3);
        Check.due("waitOf of one released in the frame in which it became active", 0, x.waitOf(3));
    }

    private static void marginsAtZero() {
        SatelliteExchange x = Check.loaded(FOUR + "call a b 0 1 9;");
        int[][] due = {{299, 1}, {300, 0}, {301, -1}, {0, 300}, {999, -699}};
        for (int[] one : due) {
            x.setSetting(LEVEL, one[0]);
            Check.due("marginOf with level " + one[0], one[1], x.marginOf(0));
            Check.due("degradedNow with level " + one[0], one[1] < 0 ? 1 : 0, x.degradedNow());
            Check.due("clearFrame with level " + one[0], one[1] < 0 ? NOT_FOUND : 0, x.clearFrame(0));
        }
    }

    private static void marginsByBothFades() {
        SatelliteExchange x = Check.loaded("set level 0;station a 0 0 500 500;station b 0 0 600 600;station c 0 0 700 700;"
                + "rain a 1 1 100;rain b 1 2 20;rain c 1 3 3;call a b 0 1 9;call b a 0 1 9;call c a 0 1 9;call a c 0 2000 9;");
        int[][] due = {{500, 600, 700, 500}, {380, 480, 597, 397}, {480, 580, 697, 497}, {500, 600, 697, 497}};
        for (int f = 0; f < due.length; f++) {
            for (int k = 0; k < 4; k++) {
                Check.due("marginOf " + k + " in frame " + f, due[f][k], x.marginOf(k));
            }
            x.advance(1);
        }
    }

    private static void marginsOfAllStates() {
        SatelliteExchange x = Check.loaded(NARROW + "set level 250;rain a 2 2 10;call a b 0 198 1;call a b 0 198 9;"
                + "call b a 0 198 9;call b c 0 198 9;");
        x.release(3);
        x.advance(1);
        Check.due("a call that has ended", ENDED, x.stateOf(0));
        Check.due("a call that is active", ACTIVE, x.stateOf(1));
        Check.due("a call that waits", WAITING, x.stateOf(2));
        for (int f = 1; f <= 3; f++) {
            int due = f == 2 ? 40 : 50;
            Check.due("marginOf an ended call in frame " + f, due, x.marginOf(0));
            Check.due("marginOf an active call in frame " + f, due, x.marginOf(1));
            Check.due("marginOf a waiting call in frame " + f, due, x.marginOf(2));
            Check.due("marginOf a released call in frame " + f, 50, x.marginOf(3));
            x.advance(1);
        }
    }

    private static void degradedAtZero() {
        for (int level = 299; level <= 301; level++) {
            SatelliteExchange x = Check.loaded("set level " + level + ";" + FOUR + "call a b 0 1 9;");
            Check.due("degradedFrames in frame 0 with level " + level, 0, x.degradedFrames(0));
            x.advance(3);
            Check.due("degradedFrames with level " + level, level > 300 ? 3 : 0, x.degradedFrames(0));
        }
    }

    /** Not in the frame in which it became active, not in that in which it ends, and never while it waits. */
    private static void degradedWhileActive() {
        SatelliteExchange x = Check.loaded(NARROW + "set level 301;call a b 0 198 3;call b c 0 198 1;call c d 0 198 2;");
        int[][] due = {{0, 0, 0}, {1, 0, 0}, {2, 0, 0}, {2, 0, 0}, {2, 0, 0}, {2, 0, 1}, {2, 0, 1}, {2, 0, 1}};
        for (int f = 0; f < due.length; f++) {
            for (int k = 0; k < 3; k++) {
                Check.due("degradedFrames of " + k + " in frame " + f, due[f][k], x.degradedFrames(k));
            }
            x.advance(1);
        }
        x = Check.loaded(NARROW + "set level 301;call a b 0 1 9;");
        x.setSetting(LEVEL, 300);
        x.setSetting(LEVEL, 301);
        x.advance(2);
        x.setSetting(LEVEL, 999);
        Check.due("a frame is counted when it begins, not when LEVEL is set", 2, x.degradedFrames(0));
        x.setSetting(LEVEL, 300);
        x.advance(1);
        Check.due("nor when the margin has become 0", 2, x.degradedFrames(0));
    }

    private static void degradedNowAtItsBounds() {
        Check.due("degradedNow of a new exchange", 0, new SatelliteExchange().degradedNow());
        String two = "set level 301;set length 5000;station a 0 0 300 300;station b 0 0 301 301;";
        SatelliteExchange x = Check.loaded(two + "call a b 0 1 9;" + "call b a 0 1 9;".repeat(14) + "call a b 0 1 1;");
        Check.due("degradedNow of the first and the last call", 1 | 1 << 15, x.degradedNow());
        x.advance(1);
        Check.due("degradedNow when the last one has ended", 1, x.degradedNow());
        x.setSetting(LEVEL, 302);
        Check.due("degradedNow of all but the ended one", 0x7fff, x.degradedNow());
        x.setSetting(LEVEL, 300);
        Check.due("degradedNow of none", 0, x.degradedNow());
        x = Check.loaded("set level 999;" + FOUR + "call a b 0 2000 9;");
        Check.due("degradedNow with a waiting call", 0, x.degradedNow());
    }

    private static void clearFramesAhead() {
        for (int length : new int[] {1, 2, 199, 200, 201, 202}) {
            SatelliteExchange x = Check.loaded(FOUR + "rain b 0 " + (length - 1) + " 1;call a b 0 1 1;");
            Check.due("clearFrame with " + length + " frames of rain", length <= 200 ? length : NOT_FOUND, x.clearFrame(0));
            x.advance(1);
            Check.due("clearFrame a frame later", length <= 201 ? length : NOT_FOUND, x.clearFrame(0));
            Check.due("the frame stays", 1, x.now());
        }
    }

    private static void clearFramesAtTheEnd() {
        for (int last = 9997; last <= 9999; last++) {
            SatelliteExchange x = Check.loaded(FOUR + "rain a 9000 " + last + " 1;call a b 0 1 1;");
            for (int now : new int[] {9796, 9797, 9798, 9799, 9800, 9998, 9999}) {
                Check.advanceTo(x, now);
                int clear = Math.max(now, last + 1);
                int due = clear > 9999 || clear > now + 200 ? NOT_FOUND : clear;
                Check.due("clearFrame from " + now + " with rain to " + last, due, x.clearFrame(0));
            }
        }
    }

    private static void clearFramesByPower() {
        SatelliteExchange x = Check.loaded("set step 10;set level 300;station a 0 0 300 400;station b 0 0 300 300;"
                + "rain a 1 99 30;call a b 0 1 9;");
        Check.due("clearFrame before the rain", 0, x.clearFrame(0));
        x.advance(1);
        Check.due("the margin when the power begins to rise", -20, x.marginOf(0));
        Check.due("clearFrame when the power has risen", 3, x.clearFrame(0));
        x.advance(1);
        Check.due("clearFrame one frame before", 3, x.clearFrame(0));
        Check.due("one step is missing", -10, x.marginOf(0));
        x.advance(1);
        Check.due("clearFrame in that frame", 3, x.clearFrame(0));
        Check.due("its margin", 0, x.marginOf(0));
        x = Check.loaded("set step 10;station a 0 0 300 329;station b 0 0 300 300;rain a 0 99 30;call a b 0 1 9;");
        Check.due("clearFrame when the greatest power is one too small", 100, x.clearFrame(0));
    }

    private static void clearFramesOfAllStates() {
        SatelliteExchange x = Check.loaded(NARROW + "rain a 0 4 1;call a b 0 198 1;call b a 0 198 1;call c a 0 198 9;"
                + "call d b 0 198 9;");
        x.advance(1);
        x.release(3);
        int[] states = {ENDED, ACTIVE, WAITING, ENDED};
        int[] due = {5, 5, 5, 1};
        for (int k = 0; k < 4; k++) {
            Check.due("stateOf " + k, states[k], x.stateOf(k));
            Check.due("clearFrame of " + k, due[k], x.clearFrame(k));
        }
    }

    private static void conflictsAtTheirBounds() {
        SatelliteExchange x = Check.loaded(NARROW + "call a b 0 1 9;");
        Check.due("conflicts of the only call", 0, x.conflicts(0));
        x = Check.loaded(NARROW + "call a b 0 1 9;call c d 0 1 1;" + "call a b 0 1 9;".repeat(14));
        Check.due("conflicts of the first call", 0xfffe, x.conflicts(0));
        Check.due("conflicts of the last call", 0x7fff, x.conflicts(15));
        x.advance(1);
        Check.due("conflicts of the first call without an ended one", 0xfffc, x.conflicts(0));
        Check.due("conflicts of the ended call", 0, x.conflicts(1));
    }

    private static void conflictsByStations() {
        SatelliteExchange x = Check.loaded("carriers 4;set length 600;" + FOUR + "call a b 0 100 9;call b a 0 100 9;"
                + "call c d 0 100 9;call d c 0 100 9;call a c 0 100 9;");
        int[] carriers = {0, 1, 2, 3, 0};
        int[] starts = {60, 60, 60, 60, 190};
        int[] due = {1 << 4, 0, 0, 1 << 4, 1 | 1 << 3};
        for (int k = 0; k < 5; k++) {
            Check.due("carrierOf " + k, carriers[k], x.carrierOf(k));
            Check.due("startOf " + k, starts[k], x.startOf(k));
            Check.due("conflicts of " + k, due[k], x.conflicts(k));
        }
        x.request(3, 1, 0, 2000, 9);
        Check.due("conflicts of a waiting call", 0, x.conflicts(5));
        Check.due("conflicts with a waiting call", 1 << 4, x.conflicts(0));
        x.release(4);
        Check.due("conflicts with a released call", 0, x.conflicts(0));
        Check.due("conflicts of a released call", 0, x.conflicts(4));
    }

    private static void framesToWaitAtTheirBounds() {
        for (int hold : new int[] {1, 2, 199, 200, 201, 202, 9999}) {
            SatelliteExchange x = Check.loaded(NARROW + "call a b 0 198 " + hold + ";call c d 0 198 1;");
            Check.due("framesToWait for a hold of " + hold, hold <= 200 ? hold : NOT_FOUND, x.framesToWait(1));
            Check.due("framesToWait of the active one", NOT_FOUND, x.framesToWait(0));
            Check.due("the frame stays", 0, x.now());
            Check.due("the call still waits", WAITING, x.stateOf(1));
            x.advance(1);
            int due = hold == 1 || hold > 201 ? NOT_FOUND : hold - 1;
            Check.due("framesToWait for a hold of " + hold + " a frame later", due, x.framesToWait(1));
        }
    }

    private static void framesToWaitAtTheEnd() {
        for (int end = 9998; end <= 10000; end++) {
            SatelliteExchange x = Check.loaded(NARROW);
            x.advance(1);
            x.request(0, 1, 0, 198, end - 1);
            x.request(2, 3, 0, 198, 1);
            for (int now : new int[] {9797, 9798, 9799, 9800, 9997}) {
                Check.advanceTo(x, now);
                int due = end > 9999 || end - now > 200 ? NOT_FOUND : end - now;
                Check.due("framesToWait from " + now + " to " + end, due, x.framesToWait(1));
            }
            Check.advanceTo(x, 9999);
            Check.due("framesToWait in the last frame", NOT_FOUND, x.framesToWait(1));
        }
    }

    private static void framesToWaitInTheQueue() {
        SatelliteExchange x = Check.loaded(NARROW + "call a b 0 198 5;call b c 1 198 100;call c d 2 198 94;"
                + "call d a 1 198 1;call a b 0 198 1;");
        int[] due = {NOT_FOUND, 99, 5, 199, 200};
        for (int k = 0; k < 5; k++) {
            Check.due("framesToWait of " + k, due[k], x.framesToWait(k));
        }
        x.request(0, 1, 0, 198, 1);
        Check.due("framesToWait of one more", NOT_FOUND, x.framesToWait(5));
        x.request(0, 1, 0, 199, 1);
        Check.due("framesToWait of one that never fits", NOT_FOUND, x.framesToWait(6));
    }
}
