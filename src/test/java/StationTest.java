/** Promises 10, 12 to 16, 41, 43, 49 to 53, and FRAMES. */
public final class StationTest {
    private static final int NOT_FOUND = -1, BAD_VALUE = -2, FULL = -3;
    private static final String WORLD = "set length 400;set guard 10;set reference 30;station a 300 4 300 340;"
            + "station b 100 - 2 320 400;station c 0 0 310 310;rain a 2 3 25;call a b 5 150 3;call c a 1 100 2;"
            + "call b c 9 100 4;";

    private StationTest() {
    }

    public static void main(String[] args) {
        wrongStations();
        frames();
        fades();
        powers();
        powerSteps();
        powerInRainThatFades();
        powersAhead();
        timingWithoutDelay();
        timingWithEcho();
        timingLimits();
        roundTrips();
        errorsAhead();
        inTime();
        inTimeAtItsEdge();
        faults();
        faultsWhateverTheMargin();
        faultsOfOneCallBehindAnother();
        endsBeforeTheQueue();
        acquiring();
        acquiringTheTimingAlone();
        busiest();
        busiestByCalls();
        loads();
        Check.end();
    }

    private static void wrongStations() {
        for (SatelliteExchange x : new SatelliteExchange[] {new SatelliteExchange(), Check.loaded(WORLD)}) {
            int n = x.stationCount();
            for (int s : new int[] {-1, n, n + 1, 6, Integer.MIN_VALUE, Integer.MAX_VALUE}) {
                Check.outOfBounds("fade " + s, () -> x.fade(s, 0));
                Check.outOfBounds("fade, station first " + s, () -> x.fade(s, -1));
                Check.outOfBounds("power " + s, () -> x.power(s));
                Check.outOfBounds("timingError " + s, () -> x.timingError(s));
                Check.outOfBounds("roundTrip " + s, () -> x.roundTrip(s));
                Check.outOfBounds("timingFaults " + s, () -> x.timingFaults(s));
                Check.outOfBounds("loadOf " + s, () -> x.loadOf(s));
                Check.outOfBounds("errorAfter " + s, () -> x.errorAfter(s, 0));
                Check.outOfBounds("errorAfter, station first " + s, () -> x.errorAfter(s, 201));
                Check.outOfBounds("powerAfter " + s, () -> x.powerAfter(s, 0));
                Check.outOfBounds("powerAfter, station first " + s, () -> x.powerAfter(s, -1));
                Check.outOfBounds("framesInTime " + s, () -> x.framesInTime(s));
            }
        }
    }

    private static void frames() {
        SatelliteExchange x = Check.loaded(WORLD);
        String before = Check.picture(x);
        for (int frames : new int[] {0, -1, 201, 10000, Integer.MIN_VALUE, Integer.MAX_VALUE}) {
            Check.due("advance " + frames, BAD_VALUE, x.advance(frames));
        }
        Check.unchanged("advance out of range", before, x);
        Check.due("now", 0, x.now());
        Check.due("advance(1)", 1, x.advance(1));
        Check.due("now", 1, x.now());
        Check.due("advance(200)", 201, x.advance(200));
        for (int i = 2; i < 50; i++) {
            x.advance(200);
        }
        Check.due("now", 9801, x.now());
        before = Check.picture(x);
        Check.due("advance(199) to 10000", FULL, x.advance(199));
        Check.due("advance(200) to 10001", FULL, x.advance(200));
        Check.due("advance(201) near the end", BAD_VALUE, x.advance(201));
        Check.unchanged("advance beyond the end", before, x);
        Check.due("advance(198)", 9999, x.advance(198));
        Check.due("advance(1) at the end", FULL, x.advance(1));
        Check.due("now at the end", 9999, x.now());
    }

    private static void fades() {
        SatelliteExchange x = Check.loaded("station a 0 0 0 0;station b 0 0 0 0;rain a 5 7 10;rain a 7 9 400;"
                + "rain b 0 0 3;rain b 9999 9999 4;rain a 6 6 1;");
        int[] due = {0, 0, 0, 0, 0, 10, 11, 410, 400, 400, 0};
        for (int f = 0; f < due.length; f++) {
            Check.due("fade(0, " + f + ")", due[f], x.fade(0, f));
        }
        Check.due("fade(1, 0)", 3, x.fade(1, 0));
        Check.due("fade(1, 1)", 0, x.fade(1, 1));
        Check.due("fade(1, 9998)", 0, x.fade(1, 9998));
        Check.due("fade(1, 9999)", 4, x.fade(1, 9999));
        Check.due("fade(1, 10000)", BAD_VALUE, x.fade(1, 10000));
        Check.due("fade(1, -1)", BAD_VALUE, x.fade(1, -1));
        Check.due("fade(0, least int)", BAD_VALUE, x.fade(0, Integer.MIN_VALUE));
        Check.due("fade(0, greatest int)", BAD_VALUE, x.fade(0, Integer.MAX_VALUE));
        x.advance(9);
        Check.due("fade does not depend on now", 410, x.fade(0, 7));
    }

    private static void powers() {
        SatelliteExchange x = Check.loaded("station a 0 0 300 340;rain a 2 3 25;rain a 6 9 400;");
        int[] due = {300, 300, 320, 325, 305, 300, 320, 340, 340, 340, 320, 300, 300};
        for (int f = 0; f < due.length; f++) {
            Check.due("powerAfter " + f, due[f], Check.loaded("station a 0 0 300 340;rain a 2 3 25;rain a 6 9 400;")
                    .powerAfter(0, f));
            Check.due("power in frame " + f, due[f], x.power(0));
            x.advance(1);
        }
        x = Check.loaded("station a 0 0 300 340;rain a 0 5 40;");
        Check.due("power in frame 0 is the nominal one, in rain too", 300, x.power(0));
        x = Check.loaded("station a 0 0 300 300;rain a 0 5 40;");
        x.advance(3);
        Check.due("power of a station without reserve", 300, x.power(0));
    }

    private static void powerSteps() {
        SatelliteExchange x = Check.loaded("set step 1;station a 0 0 0 999;rain a 1 9999 400;");
        x.advance(7);
        Check.due("power by steps of 1", 7, x.power(0));
        x.setSetting(5, 100);
        Check.due("power ahead by steps of 100", 407 - 7, x.powerAfter(0, 4));
        x.advance(1);
        Check.due("power by a step of 100", 107, x.power(0));
        x.setSetting(5, 30);
        x.advance(1);
        Check.due("power by a step of 30", 137, x.power(0));
    }

    /** Power that is no longer needed goes, though it still rains. */
    private static void powerInRainThatFades() {
        String text = "station a 0 0 300 400;rain a 1 9 50;rain a 2 4 40;rain a 7 7 10;";
        int[][] due = {{100, 300, 350, 390, 390, 390, 350, 350, 360, 350, 350, 300, 300},
            {20, 300, 320, 340, 360, 380, 360, 350, 360, 350, 350, 330, 310}};
        for (int[] powers : due) {
            SatelliteExchange x = Check.loaded("set step " + powers[0] + ";" + text);
            for (int f = 0; f < powers.length - 1; f++) {
                Check.due("powerAfter " + f + " in rain that fades", powers[f + 1],
                        Check.loaded("set step " + powers[0] + ";" + text).powerAfter(0, f));
                Check.due("power in frame " + f + " of rain that fades", powers[f + 1], x.power(0));
                x.advance(1);
            }
        }
    }

    private static void powersAhead() {
        SatelliteExchange x = Check.loaded("set step 1;station a 0 0 100 999;rain a 1 300 400;");
        Check.due("powerAfter(0)", 100, x.powerAfter(0, 0));
        Check.due("powerAfter(200)", 300, x.powerAfter(0, 200));
        Check.due("powerAfter(201)", BAD_VALUE, x.powerAfter(0, 201));
        Check.due("powerAfter(-1)", BAD_VALUE, x.powerAfter(0, -1));
        Check.due("powerAfter(least int)", BAD_VALUE, x.powerAfter(0, Integer.MIN_VALUE));
        Check.due("powerAfter(greatest int)", BAD_VALUE, x.powerAfter(0, Integer.MAX_VALUE));
        Check.due("the power itself stays", 100, x.power(0));
        for (int i = 0; i < 49; i++) {
            x.advance(200);
        }
        Check.due("powerAfter to 9999", 100, x.powerAfter(0, 199));
        Check.due("powerAfter to 10000", NOT_FOUND, x.powerAfter(0, 200));
        Check.due("powerAfter out of range near the end", BAD_VALUE, x.powerAfter(0, 201));
        x.advance(199);
        Check.due("powerAfter(0) at the end", 100, x.powerAfter(0, 0));
        Check.due("powerAfter(1) at the end", NOT_FOUND, x.powerAfter(0, 1));
    }

    private static void timingWithoutDelay() {
        int[] due = {0, 5, 8, 9, 10, 10};
        SatelliteExchange x = Check.loaded("station a 0 5 0 0;station b 0 - 5 0 0;");
        for (int f = 0; f < due.length; f++) {
            Check.due("timingError in frame " + f, due[f], x.timingError(0));
            Check.due("negative timingError in frame " + f, -due[f], x.timingError(1));
            x.advance(1);
        }
        x = Check.loaded("set gain 100;station a 0 5 0 0;");
        x.advance(9);
        Check.due("timingError with gain 100", 5, x.timingError(0));
        x.setSetting(6, 1);
        x.advance(1);
        Check.due("timingError with gain 1", 10, x.timingError(0));
    }

    private static void timingWithEcho() {
        int[] due = {0, 5, 10, 15, 18, 18, 16, 12, 8};
        SatelliteExchange x = Check.loaded("set length 1000;station a 501 5 0 0;");
        Check.due("round trip", 2, x.roundTrip(0));
        for (int f = 0; f < due.length; f++) {
            Check.due("timingError with echo in frame " + f, due[f], x.timingError(0));
            Check.due("errorAfter with echo " + f, due[f],
                    Check.loaded("set length 1000;station a 501 5 0 0;").errorAfter(0, f));
            x.advance(1);
        }
        x = Check.loaded("set length 200;station a 5000 3 0 0;");
        x.advance(51);
        Check.due("no echo before frame 52", 153, x.timingError(0));
        x.advance(1);
        Check.due("the echo of frame 1", 155, x.timingError(0));
    }

    /** A gain of 100 over the longest round trip swings ever wider, to the limits. */
    private static void timingLimits() {
        SatelliteExchange x = Check.loaded("set length 200;set gain 100;station a 5000 50 0 0;station b 5000 -50 0 0;");
        int[] errors = new int[10000];
        int high = 0;
        int low = 0;
        for (int f = 1; f < 10000; f++) {
            int correction = f - 51 < 0 ? 0 : errors[f - 51];
            errors[f] = Math.max(-100000, Math.min(100000, errors[f - 1] + 50 - correction));
            high += errors[f] == 100000 ? 1 : 0;
            low += errors[f] == -100000 ? 1 : 0;
        }
        Check.that("the limits are reached", high > 0 && low > 0);
        int f = 0;
        for (int step : new int[] {200, 200, 199, 3, 47, 64, 65, 128}) {
            f += step;
            x.advance(step);
            Check.due("timingError in frame " + f, errors[f], x.timingError(0));
            Check.due("errorAfter from frame " + f, errors[f + 200], x.errorAfter(0, 200));
        }
        for (; f + 150 < 10000; f += 150) {
            Check.due("timingError in frame " + f, errors[f], x.timingError(0));
            Check.due("timingError the other way in frame " + f, -errors[f], x.timingError(1));
            x.advance(150);
        }
    }

    private static void roundTrips() {
        SatelliteExchange x = Check.loaded("set length 200;station a 0 0 0 0;station b 1 0 0 0;station c 100 0 0 0;"
                + "station d 101 0 0 0;station e 5000 0 0 0;station f 4999 0 0 0;");
        int[] due = {0, 1, 1, 2, 50, 50};
        for (int s = 0; s < 6; s++) {
            Check.due("roundTrip " + s, due[s], x.roundTrip(s));
        }
        x = Check.loaded("station a 5000 0 0 0;station b 2501 0 0 0;station c 2500 0 0 0;set length 5000;");
        Check.due("roundTrip with a length set later", 2, x.roundTrip(0));
        Check.due("roundTrip rounded up", 2, x.roundTrip(1));
        Check.due("roundTrip of just one", 1, x.roundTrip(2));
    }

    private static void errorsAhead() {
        SatelliteExchange x = Check.loaded("station a 0 5 0 0;");
        Check.due("errorAfter(-1)", Integer.MIN_VALUE, x.errorAfter(0, -1));
        Check.due("errorAfter(201)", Integer.MIN_VALUE, x.errorAfter(0, 201));
        Check.due("errorAfter(least int)", Integer.MIN_VALUE, x.errorAfter(0, Integer.MIN_VALUE));
        Check.due("errorAfter(greatest int)", Integer.MIN_VALUE, x.errorAfter(0, Integer.MAX_VALUE));
        Check.due("errorAfter(0)", 0, x.errorAfter(0, 0));
        Check.due("errorAfter(2)", 8, x.errorAfter(0, 2));
        Check.due("errorAfter(200)", 10, x.errorAfter(0, 200));
        Check.due("the error itself stays", 0, x.timingError(0));
        for (int i = 0; i < 49; i++) {
            x.advance(200);
        }
        x.advance(199);
        x.acquire(0);
        Check.due("errorAfter may look beyond frame 9999", 8, x.errorAfter(0, 2));
        Check.due("and so may framesInTime", 2, x.framesInTime(0));
    }

    private static void inTime() {
        SatelliteExchange x = Check.loaded("station a 0 5 0 0;station b 0 0 0 0;station c 0 -2 0 0;");
        Check.due("framesInTime: 5 is in time with a guard of 10, 8 is not", 2, x.framesInTime(0));
        Check.due("framesInTime without drift", NOT_FOUND, x.framesInTime(1));
        Check.due("framesInTime of an error that stays below", NOT_FOUND, x.framesInTime(2));
        x.advance(1);
        Check.due("framesInTime a frame later", 1, x.framesInTime(0));
        x.advance(1);
        Check.due("framesInTime when out of time", 0, x.framesInTime(0));
        x = Check.loaded("set guard 0;station a 0 -1 0 0;station b 0 0 0 0;");
        Check.due("framesInTime with no guard", 1, x.framesInTime(0));
        Check.due("framesInTime with no guard and no drift", NOT_FOUND, x.framesInTime(1));
    }

    private static void inTimeAtItsEdge() {
        String station = ";set gain 33;station a 2500 4 0 0;";
        SatelliteExchange x = Check.loaded("set guard 197" + station);
        Check.due("framesInTime of 200", 200, x.framesInTime(0));
        x = Check.loaded("set guard 198" + station);
        Check.due("framesInTime of 201", NOT_FOUND, x.framesInTime(0));
        x.advance(1);
        Check.due("framesInTime of 201, a frame later", 200, x.framesInTime(0));
    }

    private static void faults() {
        SatelliteExchange x = Check.loaded("station a 0 50 0 0;station b 0 50 0 0;station c 0 0 0 0;"
                + "call a b 0 10 3;call a c 0 10 5;call c a 0 10 9;");
        int[] due = {0, 1, 2, 3, 4, 4, 4};
        for (int f = 0; f < due.length; f++) {
            Check.due("timingFaults in frame " + f + ": once a frame", due[f], x.timingFaults(0));
            Check.due("timingFaults of a receiver", 0, x.timingFaults(1));
            Check.due("timingFaults in time", 0, x.timingFaults(2));
            x.advance(1);
        }
        x.request(1, 0, 0, 10, 2);
        x.advance(3);
        Check.due("timingFaults: not in the frame of the end", 1, x.timingFaults(1));
        // The second call begins in frame 2, when the first one ends.
        x = Check.loaded("set length 200;set guard 0;station a 0 50 0 0;station b 0 50 0 0;"
                + "call a b 0 100 2;call b a 0 100 3;");
        Check.due("the second call waits", 0, x.stateOf(1));
        int[] second = {0, 0, 0, 1, 2, 2};
        for (int f = 0; f < second.length; f++) {
            Check.due("timingFaults of the one that waited, frame " + f, second[f], x.timingFaults(1));
            Check.due("timingFaults of the first one, frame " + f, f == 0 ? 0 : 1, x.timingFaults(0));
            x.advance(1);
        }
    }

    /** Out of time and degraded are two things: each counts without the other. */
    private static void faultsWhateverTheMargin() {
        SatelliteExchange x = Check.loaded("set guard 0;set level 300;station a 0 9 300 300;station b 0 0 299 299;"
                + "call a b 0 10 9;call b a 0 10 9;");
        x.advance(2);
        Check.due("timingFaults of a sender whose call has margin", 2, x.timingFaults(0));
        Check.due("degradedFrames of its call", 0, x.degradedFrames(0));
        Check.due("timingFaults of a sender in time whose call has none", 0, x.timingFaults(1));
        Check.due("degradedFrames of its call", 2, x.degradedFrames(1));
        x.setSetting(4, 301);
        x.advance(1);
        Check.due("timingFaults when its call is degraded too", 3, x.timingFaults(0));
        Check.due("degradedFrames of its call", 1, x.degradedFrames(0));
    }

    /** In the frame in which one call of a sender ends and another one begins, none was active before and after. */
    private static void faultsOfOneCallBehindAnother() {
        SatelliteExchange x = Check.loaded("set length 200;set guard 0;station a 0 9 0 0;station b 0 0 0 0;"
                + "call a b 0 100 3;call a b 0 100 2;");
        int[] due = {0, 1, 2, 2, 3, 3};
        for (int f = 0; f < due.length; f++) {
            Check.due("timingFaults of a sender of two calls in frame " + f, due[f], x.timingFaults(0));
            Check.due("stateOf the second call in frame " + f, f < 3 ? 0 : f < 5 ? 1 : 2, x.stateOf(1));
            x.advance(1);
        }
    }

    /** All calls whose end has come end, and then the queue is served, the first one first. */
    private static void endsBeforeTheQueue() {
        SatelliteExchange x = Check.loaded("set length 200;set guard 0;set reference 1;set preamble 1;station a 0 0 0 0;"
                + "station b 0 0 0 0;call a b 5 99 3;call a b 5 49 3;call a b 5 48 4;call a b 1 98 9;call a b 9 148 9;"
                + "call a b 2 1 9;call a b 1 197 9;");
        x.advance(3);
        // 150 symbols are free: 149 of them for call 4, the first in the queue, and none for 5, 3 and 6 behind it.
        int[] states = {2, 2, 1, 0, 1, 0, 0};
        for (int k = 0; k < states.length; k++) {
            Check.due("stateOf " + k + " when two have ended", states[k], x.stateOf(k));
        }
        Check.due("startOf the first in the queue", 1, x.startOf(4));
        x.advance(1);
        Check.due("the next one, which has the room of the third that ended", 150, x.startOf(5));
        Check.due("then there is no room for another", 2, x.queueLength());
        Check.due("the order of the queue", 3, x.queuedAt(0));
    }

    private static void acquiring() {
        SatelliteExchange x = Check.loaded("set length 1000;station a 501 5 0 0;station b 501 5 0 0;");
        String before = Check.picture(x);
        for (int s : new int[] {-1, 2, Integer.MIN_VALUE, Integer.MAX_VALUE}) {
            Check.due("acquire " + s, false, x.acquire(s));
        }
        Check.unchanged("acquire of no station", before, x);
        x.advance(5);
        before = Check.picture(x);
        Check.due("acquire", true, x.acquire(0));
        Check.due("acquired error", 0, x.timingError(0));
        Check.due("the other station's error", 18, x.timingError(1));
        Check.due("undoCount", 2, x.undoCount());
        int[] due = {0, 5, 10, 15, 18, 18, 16};
        for (int f = 0; f < due.length; f++) {
            Check.due("error after acquire and " + f, due[f], x.errorAfter(0, f));
        }
        Check.due("undo of acquire", 1, x.undo());
        Check.unchanged("acquire and undo", before, x);
        Check.due("errors come back", 16, x.errorAfter(0, 1));
        Check.due("acquire of no station at all", false, new SatelliteExchange().acquire(0));
    }

    private static void acquiringTheTimingAlone() {
        SatelliteExchange x = Check.loaded("set guard 0;set step 7;set level 299;station a 0 9 300 400;station b 0 0 0 0;"
                + "rain a 1 99 50;call a b 3 10 99;");
        x.advance(3);
        Check.due("acquire", true, x.acquire(0));
        Check.due("timingError behind acquire", 0, x.timingError(0));
        Check.due("timingFaults stay", 3, x.timingFaults(0));
        Check.due("power stays", 321, x.power(0));
        Check.due("the drift stays", 9, x.errorAfter(0, 1));
        Check.due("the frame stays", 3, x.now());
        Check.due("the call stays active", 1, x.stateOf(0));
        Check.due("degradedFrames stay", 3, x.degradedFrames(0));
        x.advance(1);
        Check.due("timingFaults go on", 4, x.timingFaults(0));
        Check.due("power goes on", 328, x.power(0));
    }

    private static void busiest() {
        Check.due("busiestStation of none", NOT_FOUND, new SatelliteExchange().busiestStation());
        SatelliteExchange x = Check.loaded("station a 0 0 0 0;station b 0 0 0 0;station c 0 0 0 0;station d 0 0 0 0;");
        Check.due("busiestStation without calls", NOT_FOUND, x.busiestStation());
        x.request(3, 2, 0, 10, 9);
        Check.due("busiestStation of two alike", 2, x.busiestStation());
        x.request(1, 3, 0, 10, 2);
        Check.due("busiestStation that sends one and receives one", 3, x.busiestStation());
        x.request(0, 1, 0, 10, 3);
        Check.due("busiestStation, the lower of two", 1, x.busiestStation());
        x.advance(2);
        Check.due("busiestStation, ended calls do not count", 0, x.busiestStation());
        x.advance(7);
        Check.due("busiestStation when all ended", NOT_FOUND, x.busiestStation());
        x = Check.loaded("set length 200;station a 0 0 0 0;station b 0 0 0 0;station c 0 0 0 0;");
        x.request(1, 2, 0, 90, 9);
        x.request(0, 1, 0, 90, 9);
        x.request(0, 2, 0, 90, 9);
        Check.due("busiestStation, waiting calls do not count", 1, x.busiestStation());
    }

    /** The most calls, sent and received, not the most symbols. */
    private static void busiestByCalls() {
        SatelliteExchange x = Check.loaded("carriers 2;station a 0 0 0 0;station b 0 0 0 0;station c 0 0 0 0;"
                + "station d 0 0 0 0;call a b 0 700 9;call c d 0 1 9;call d c 0 1 5;");
        Check.due("all calls are active", 0, x.queueLength());
        Check.due("busiestStation of two short calls", 2, x.busiestStation());
        x.advance(5);
        Check.due("busiestStation when all have one call", 0, x.busiestStation());
    }

    private static void loads() {
        SatelliteExchange x = Check.loaded(WORLD);
        Check.due("loadOf a", 170, x.loadOf(0));
        Check.due("loadOf b: its call waits", 0, x.loadOf(1));
        Check.due("loadOf c", 120, x.loadOf(2));
        x.release(1);
        Check.due("loadOf b when its call is active", 120, x.loadOf(1));
        Check.due("loadOf c when its call ended", 0, x.loadOf(2));
        x.request(1, 0, 0, 5, 9);
        Check.due("loadOf b with two calls", 145, x.loadOf(1));
    }
}
