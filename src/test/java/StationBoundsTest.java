/** Promises 10, 12 to 16, 41, 43, 49 to 53, and FRAMES: the sentences that name a bound, each with its own test. */
public final class StationBoundsTest {
    private static final int NOT_FOUND = -1, BAD_VALUE = -2, FULL = -3;
    private static final int GUARD_SETTING = 1, STEP = 5, GAIN = 6;
    private static final String SIX = "station a 0 1 10 20;station b 1 2 11 21;station c 2 3 12 22;"
            + "station d 3 4 13 23;station e 4 5 14 24;station f 5 6 15 25;";

    private StationBoundsTest() {
    }

    public static void main(String[] args) {
        indexes();
        stationBeforeFrames();
        framesOfFades();
        rainsAtTheirEnds();
        powersAtTheirBounds();
        powerStepsAtTheirBounds();
        powerInTheMiddleOfAStep();
        powerFollowsTheFrameItself();
        firstCorrections();
        truncation();
        gainsAtTheirBounds();
        limitsOfTheError();
        roundTripsAtTheirBounds();
        outOfTimeAtItsBound();
        faultsAtTheirBound();
        faultsOncePerSender();
        faultsOfBeginningsAndEnds();
        framesToAdvance();
        framesAtTheEnd();
        acquiringAtItsBounds();
        acquiringForgetsEarlierErrors();
        acquiringInEachFrame();
        errorsAhead();
        errorsBeyondTheEnd();
        powersAhead();
        powersAtTheEnd();
        framesInTimeAtTheirBounds();
        busiestAtItsBounds();
        loadsAtTheirBounds();
        Check.end();
    }

    /** The first and the last index, and one beyond each. */
    private static void indexes() {
        for (int n = 0; n <= 6; n++) {
            SatelliteExchange x = Check.loaded(SIX.substring(0, 20 * n));
            for (int s = 0; s < n; s++) {
                Check.due("power of " + s + " of " + n, 10 + s, x.power(s));
                Check.due("errorAfter of " + s + " of " + n, s + 1, x.errorAfter(s, 1));
                Check.due("fade of " + s + " of " + n, 0, x.fade(s, 0));
                Check.due("timingError of " + s + " of " + n, 0, x.timingError(s));
                Check.due("roundTrip of " + s + " of " + n, s == 0 ? 0 : 1, x.roundTrip(s));
                Check.due("timingFaults of " + s + " of " + n, 0, x.timingFaults(s));
                Check.due("loadOf " + s + " of " + n, 0, x.loadOf(s));
                Check.due("powerAfter of " + s + " of " + n, 10 + s, x.powerAfter(s, 1));
            }
            for (int s : new int[] {-1, n, n + 1, 6, 7, Integer.MIN_VALUE, Integer.MAX_VALUE}) {
                noStation(x, s, s + " of " + n);
            }
        }
    }

    private static void noStation(SatelliteExchange x, int s, String which) {
        Check.outOfBounds("power of " + which, () -> x.power(s));
        Check.outOfBounds("errorAfter of " + which, () -> x.errorAfter(s, 1));
        Check.outOfBounds("fade of " + which, () -> x.fade(s, 0));
        Check.outOfBounds("timingError of " + which, () -> x.timingError(s));
        Check.outOfBounds("roundTrip of " + which, () -> x.roundTrip(s));
        Check.outOfBounds("timingFaults of " + which, () -> x.timingFaults(s));
        Check.outOfBounds("loadOf " + which, () -> x.loadOf(s));
        Check.outOfBounds("powerAfter of " + which, () -> x.powerAfter(s, 1));
        Check.outOfBounds("framesInTime of " + which, () -> x.framesInTime(s));
    }

    private static void stationBeforeFrames() {
        SatelliteExchange x = Check.loaded("station a 0 1 10 20;");
        for (int bad : new int[] {-1, 201, 10000, Integer.MIN_VALUE, Integer.MAX_VALUE}) {
            Check.outOfBounds("fade of no station in no frame", () -> x.fade(1, bad == 201 ? -1 : bad));
            Check.outOfBounds("errorAfter of no station, no number of frames", () -> x.errorAfter(1, bad));
            Check.outOfBounds("powerAfter of no station, no number of frames", () -> x.powerAfter(1, bad));
        }
        Check.advanceTo(x, 9999);
        Check.outOfBounds("powerAfter of no station beyond the end", () -> x.powerAfter(-1, 1));
        Check.due("powerAfter beyond the end", NOT_FOUND, x.powerAfter(0, 1));
    }

    private static void framesOfFades() {
        SatelliteExchange x = Check.loaded("station a 0 0 0 0;rain a 0 9999 7;");
        int[][] due = {{-1, BAD_VALUE}, {0, 7}, {1, 7}, {9998, 7}, {9999, 7}, {10000, BAD_VALUE},
            {Integer.MIN_VALUE, BAD_VALUE}, {Integer.MAX_VALUE, BAD_VALUE}};
        for (int[] one : due) {
            Check.due("fade in frame " + one[0], one[1], x.fade(0, one[0]));
        }
        Check.advanceTo(x, 9999);
        for (int[] one : due) {
            Check.due("fade in frame " + one[0] + " at the end", one[1], x.fade(0, one[0]));
        }
    }

    private static void rainsAtTheirEnds() {
        SatelliteExchange x = Check.loaded("station a 0 0 0 0;station b 0 0 0 0;rain a 3 5 10;rain a 5 7 200;"
                + "rain a 5 5 3;rain b 5 5 1;");
        int[] due = {0, 0, 0, 10, 10, 213, 200, 200, 0};
        for (int f = 0; f < due.length; f++) {
            Check.due("fade of a in frame " + f, due[f], x.fade(0, f));
            Check.due("fade of b in frame " + f, f == 5 ? 1 : 0, x.fade(1, f));
        }
        x = Check.loaded("station a 0 0 0 0;" + "rain a 1 1 400;".repeat(8));
        Check.due("the sum of all rains", 3200, x.fade(0, 1));
        Check.due("the frame before", 0, x.fade(0, 0));
        Check.due("the frame behind", 0, x.fade(0, 2));
        Check.due("fade without rain", 0, Check.loaded("station a 0 0 0 0;").fade(0, 0));
    }

    /** Nominal power plus fade: one less than the greatest power, as much, and one more. */
    private static void powersAtTheirBounds() {
        int[] fades = {39, 40, 41, 400};
        int[] due = {339, 340, 340, 340};
        for (int i = 0; i < fades.length; i++) {
            SatelliteExchange x = Check.loaded("set step 100;station a 0 0 300 340;rain a 1 2 " + fades[i] + ";");
            x.advance(1);
            Check.due("power with a fade of " + fades[i], due[i], x.power(0));
            x.advance(1);
            Check.due("power with a fade of " + fades[i] + " still", due[i], x.power(0));
            x.advance(1);
            Check.due("power behind a fade of " + fades[i], 300, x.power(0));
        }
        SatelliteExchange x = Check.loaded("set step 100;station a 0 0 999 999;station b 0 0 0 0;rain a 1 9 400;"
                + "rain b 1 9 400;");
        x.advance(2);
        Check.due("power that has no reserve", 999, x.power(0));
        Check.due("power of a station without any", 0, x.power(1));
        x = Check.loaded("station a 0 0 300 340;rain a 0 0 40;");
        Check.due("power in frame 0, in rain", 300, x.power(0));
        x.advance(1);
        Check.due("power behind the rain of frame 0", 300, x.power(0));
    }

    /** What is needed: one less than STEP, as much, and one more; up and down. */
    private static void powerStepsAtTheirBounds() {
        for (int step : new int[] {1, 2, 20, 99, 100}) {
            for (int needed = Math.max(1, step - 1); needed <= step + 1; needed++) {
                SatelliteExchange x = Check.loaded("set step " + step + ";station a 0 0 300 900;rain a 1 2 " + needed + ";");
                int first = Math.min(step, needed);
                String with = " with step " + step + ", needed " + needed;
                Check.due("powerAfter 1" + with, 300 + first, x.powerAfter(0, 1));
                x.advance(1);
                Check.due("power up" + with, 300 + first, x.power(0));
                x.advance(1);
                Check.due("power up, then" + with, 300 + Math.min(2 * step, needed), x.power(0));
                x.advance(1);
                Check.due("power down" + with, 300 + Math.min(2 * step, needed) - first, x.power(0));
                x.advance(2);
                Check.due("power at last" + with, 300, x.power(0));
            }
        }
        SatelliteExchange x = Check.loaded("station a 0 0 300 900;rain a 1 9 100;");
        Check.due("the step of a new exchange", 320, x.powerAfter(0, 1));
        x.setSetting(STEP, 30);
        Check.due("a step that was set", 330, x.powerAfter(0, 1));
        x.advance(1);
        Check.due("the power by it", 330, x.power(0));
    }

    private static void powerInTheMiddleOfAStep() {
        SatelliteExchange x = Check.loaded("set step 20;station a 0 0 300 400;rain a 1 3 100;");
        x.advance(1);
        int[] due = {320, 340, 360, 340, 320, 300, 300};
        for (int i = 0; i < due.length; i++) {
            Check.due("powerAfter " + i + " on the way up", due[i], x.powerAfter(0, i));
        }
        x.advance(1);
        Check.due("powerAfter 0 one frame later", 340, x.powerAfter(0, 0));
        Check.due("powerAfter 1 one frame later", 360, x.powerAfter(0, 1));
        Check.due("the power one frame later", 340, x.power(0));
        x.advance(2);
        Check.due("powerAfter 0 on the way down", 340, x.powerAfter(0, 0));
        Check.due("powerAfter 1 on the way down", 320, x.powerAfter(0, 1));
        Check.due("powerAfter 3 at the nominal power", 300, x.powerAfter(0, 3));
    }

    /** Part 3 takes the fade of the new frame, and part 4 the power behind part 3. */
    private static void powerFollowsTheFrameItself() {
        SatelliteExchange x = Check.loaded("set step 20;set level 300;station a 0 0 300 400;station b 0 0 0 0;"
                + "rain a 2 2 20;rain a 3 3 21;call a b 0 1 9;");
        int[] margins = {0, 0, 0, 0, 1, 0};
        int[] powers = {300, 300, 320, 321, 301, 300};
        for (int f = 0; f < margins.length; f++) {
            Check.due("power in frame " + f, powers[f], x.power(0));
            Check.due("margin in frame " + f, margins[f], x.marginOf(0));
            Check.due("degraded by frame " + f, 0, x.degradedFrames(0));
            x.advance(1);
        }
        x = Check.loaded("set step 20;set level 300;station a 0 0 300 400;station b 0 0 0 0;rain a 2 3 21;call a b 0 1 9;");
        x.advance(2);
        Check.due("a step that is one too small", -1, x.marginOf(0));
        Check.due("counts at once", 1, x.degradedFrames(0));
        x.advance(1);
        Check.due("the next step is enough", 0, x.marginOf(0));
        Check.due("and does not count", 1, x.degradedFrames(0));
    }

    /** c is 0 while f - 1 - r is negative; in frame r + 2 the error of frame 1 comes back. */
    private static void firstCorrections() {
        for (int trip : new int[] {0, 1, 2, 7, 49, 50}) {
            SatelliteExchange x = Check.loaded("set length 200;set gain 100;station a " + 100 * trip + " 3 0 0;");
            Check.due("roundTrip", trip, x.roundTrip(0));
            String with = " with a round trip of " + trip;
            Check.due("error one frame before the echo of frame 0" + with, 3 * trip, x.errorAfter(0, trip));
            Check.due("error with the echo of frame 0" + with, 3 * trip + 3, x.errorAfter(0, trip + 1));
            Check.due("error with the echo of frame 1" + with, 3 * trip + 3, x.errorAfter(0, trip + 2));
            Check.due("error with the echo of frame 2" + with, trip == 0 ? 3 : 3 * trip, x.errorAfter(0, trip + 3));
        }
    }

    private static void truncation() {
        // 3 times 33 is 99: nothing is corrected; 4 times 33 is 132: 1.
        SatelliteExchange x = Check.loaded("set gain 33;station a 0 3 0 0;station b 0 -3 0 0;");
        int[] due = {0, 3, 6, 8, 9, 10, 10};
        for (int f = 0; f < due.length; f++) {
            Check.due("error in frame " + f + ", truncated", due[f], x.timingError(0));
            Check.due("error in frame " + f + ", truncated toward zero", -due[f], x.timingError(1));
            x.advance(1);
        }
    }

    private static void gainsAtTheirBounds() {
        SatelliteExchange x = Check.loaded("set gain 1;station a 0 50 0 0;station b 0 -50 0 0;");
        // The part of 50 is 0, of 100 it is 1, of 149 1, of 198 1, of 247 2.
        int[] due = {0, 50, 100, 149, 198, 247, 295};
        for (int f = 0; f < due.length; f++) {
            Check.due("error with a gain of 1 after " + f, due[f], x.errorAfter(0, f));
            Check.due("negative error with a gain of 1 after " + f, -due[f], x.errorAfter(1, f));
        }
        x.advance(4);
        Check.due("setSetting to 99", 1, x.setSetting(GAIN, 99));
        Check.due("error with a gain of 99", 198 + 50 - 196, x.errorAfter(0, 1));
        Check.due("setSetting to 100", 99, x.setSetting(GAIN, 100));
        Check.due("error with a gain of 100", 50, x.errorAfter(0, 1));
        x.advance(1);
        Check.due("error with a gain of 100, passed", 50, x.timingError(0));
    }

    /** Swings ever wider, told by the sentence of part 2 alone; the limits cut it off. */
    private static void limitsOfTheError() {
        for (int[] world : new int[][] {{50, 100}, {-50, 100}, {49, 99}, {-47, 97}, {13, 91}}) {
            int drift = world[0];
            int gain = world[1];
            SatelliteExchange x = Check.loaded("set length 200;set gain " + gain + ";station a 5000 " + drift + " 0 0;");
            int[] errors = new int[2400];
            int atLimit = 0;
            for (int f = 1; f < errors.length; f++) {
                int c = f - 1 - 50 < 0 ? 0 : errors[f - 1 - 50] * gain / 100;
                int error = errors[f - 1] + drift - c;
                errors[f] = error > 100000 ? 100000 : error < -100000 ? -100000 : error;
                atLimit += errors[f] != error ? 1 : 0;
            }
            Check.that("the limits cut errors off", atLimit > 0);
            for (int f = 0; f < 2200; f += 20) {
                Check.due("error in frame " + f, errors[f], x.timingError(0));
                for (int ahead = 1; ahead < 3; ahead++) {
                    Check.due("error " + ahead + " frames later than " + f, errors[f + ahead], x.errorAfter(0, ahead));
                }
                x.advance(20);
            }
        }
    }

    private static void roundTripsAtTheirBounds() {
        int[][] due = {{200, 0, 0}, {200, 1, 1}, {200, 99, 1}, {200, 100, 1}, {200, 101, 2}, {200, 200, 2}, {200, 201, 3},
            {200, 4900, 49}, {200, 4901, 50}, {200, 5000, 50}, {201, 100, 1}, {201, 101, 2}, {201, 201, 2},
            {201, 202, 3}, {333, 166, 1}, {333, 167, 2}, {5000, 0, 0}, {5000, 1, 1}, {5000, 2500, 1},
            {5000, 2501, 2}, {5000, 4999, 2}, {5000, 5000, 2}, {4999, 5000, 3}, {4999, 4999, 2}};
        for (int[] one : due) {
            SatelliteExchange x = Check.loaded("station a " + one[1] + " 0 0 0;set length " + one[0] + ";");
            Check.due("roundTrip of " + one[1] + " in frames of " + one[0], one[2], x.roundTrip(0));
        }
        SatelliteExchange x = Check.loaded("station a 500 0 0 0;station b 501 0 0 0;station c 1000 0 0 0;");
        Check.due("roundTrip of 500 in a new exchange's frames", 1, x.roundTrip(0));
        Check.due("roundTrip of 501", 2, x.roundTrip(1));
        Check.due("roundTrip of 1000", 2, x.roundTrip(2));
    }

    /** A station is out of time if twice its error is greater than GUARD: not yet when it is just as much. */
    private static void outOfTimeAtItsBound() {
        for (int drift : new int[] {1, 5, 50}) {
            for (String sign : new String[] {"", "-"}) {
                for (int guard = 2 * drift - 1; guard <= 2 * drift + 1; guard++) {
                    SatelliteExchange x = Check.loaded("set gain 100;set guard " + guard + ";station a 0 " + sign + drift
                            + " 0 0;");
                    Check.due("getSetting GUARD", guard, x.getSetting(GUARD_SETTING));
                    int due = guard < 2 * drift ? 1 : NOT_FOUND;
                    Check.due("framesInTime of " + sign + drift + " with guard " + guard, due, x.framesInTime(0));
                }
            }
        }
        SatelliteExchange x = Check.loaded("set guard 0;station a 0 1 0 0;station b 0 0 0 0;");
        Check.due("an error of 0 is in time without guard", NOT_FOUND, x.framesInTime(1));
        Check.due("an error of 1 is not", 1, x.framesInTime(0));
    }

    private static void faultsAtTheirBound() {
        for (String sign : new String[] {"", "-"}) {
            for (int guard = 9; guard <= 11; guard++) {
                SatelliteExchange x = Check.loaded("set gain 100;set guard " + guard + ";station a 0 " + sign + "5 0 0;"
                        + "station b 0 50 0 0;call a b 0 1 9;");
                x.advance(3);
                Check.due("timingFaults of " + sign + "5 with guard " + guard, guard < 10 ? 3 : 0, x.timingFaults(0));
                Check.due("timingFaults of the receiver", 0, x.timingFaults(1));
            }
        }
    }

    private static void faultsOncePerSender() {
        SatelliteExchange x = Check.loaded("set length 500;set guard 0;station a 0 9 0 0;station b 0 9 0 0;"
                + "station c 0 9 0 0;call a b 0 1 9;call a c 0 1 9;call a b 0 1 9;call b a 0 1 2;");
        Check.due("all are active", 0, x.queueLength());
        x.advance(1);
        Check.due("one fault for three calls", 1, x.timingFaults(0));
        Check.due("one fault for one call", 1, x.timingFaults(1));
        Check.due("no fault of a station that only receives", 0, x.timingFaults(2));
        x.advance(1);
        Check.due("two faults for three calls", 2, x.timingFaults(0));
        Check.due("no fault in the frame of the end", 1, x.timingFaults(1));
        x.release(0);
        x.advance(1);
        Check.due("three faults for two calls", 3, x.timingFaults(0));
        x.release(1);
        x.release(2);
        x.advance(1);
        Check.due("no fault without calls", 3, x.timingFaults(0));
    }

    /** A call counts from the frame behind the one in which it became active, to the one before its end. */
    private static void faultsOfBeginningsAndEnds() {
        for (int hold = 1; hold <= 3; hold++) {
            SatelliteExchange x = Check.loaded("set guard 0;set level 999;station a 0 9 0 0;station b 0 0 0 0;call a b 0 1 "
                    + hold + ";");
            for (int f = 0; f <= 4; f++) {
                int due = Math.min(f, hold - 1);
                Check.due("timingFaults with hold " + hold + " by frame " + f, due, x.timingFaults(0));
                Check.due("degradedFrames with hold " + hold + " by frame " + f, due, x.degradedFrames(0));
                x.advance(1);
            }
        }
        SatelliteExchange x = Check.loaded("set guard 0;set level 999;station a 0 9 0 0;station b 0 0 0 0;");
        x.advance(3);
        x.request(0, 1, 0, 1, 2);
        Check.due("no fault by a request", 0, x.timingFaults(0));
        x.advance(1);
        Check.due("a fault in the next frame", 1, x.timingFaults(0));
        Check.due("a degraded frame too", 1, x.degradedFrames(0));
        x.advance(1);
        Check.due("none in the frame of the end", 1, x.timingFaults(0));
        Check.due("none of either", 1, x.degradedFrames(0));
    }

    private static void framesToAdvance() {
        int[][] due = {{0, BAD_VALUE}, {1, 1}, {2, 2}, {199, 199}, {200, 200}, {201, BAD_VALUE}, {-1, BAD_VALUE},
            {9999, BAD_VALUE}, {10000, BAD_VALUE}, {Integer.MIN_VALUE, BAD_VALUE}, {Integer.MAX_VALUE, BAD_VALUE}};
        for (int[] one : due) {
            SatelliteExchange x = Check.loaded("station a 0 5 0 0;");
            Check.due("advance(" + one[0] + ")", one[1], x.advance(one[0]));
            Check.due("now behind advance(" + one[0] + ")", Math.max(0, one[1]), x.now());
            Check.due("undoCount behind advance(" + one[0] + ")", one[1] < 0 ? 0 : 1, x.undoCount());
            Check.due("error behind advance(" + one[0] + ")", one[1] < 0 ? 0 : one[1] == 1 ? 5 : one[1] == 2 ? 8 : 10,
                    x.timingError(0));
        }
    }

    private static void framesAtTheEnd() {
        for (int left = 0; left <= 201; left += left == 3 ? 195 : 1) {
            for (int frames : new int[] {1, 2, left - 1, left, left + 1, 200, 201, 0, Integer.MAX_VALUE}) {
                SatelliteExchange x = Check.loaded("station a 0 5 0 0;station b 0 0 0 0;call a b 0 1 9999;");
                Check.advanceTo(x, 9999 - left);
                int due = frames < 1 || frames > 200 ? BAD_VALUE : frames > left ? FULL : 9999 - left + frames;
                String what = "advance(" + frames + ") with " + left + " left";
                String before = Check.picture(x);
                Check.due(what, due, x.advance(frames));
                Check.due(what + ": now", due < 0 ? 9999 - left : due, x.now());
                if (due < 0) {
                    Check.unchanged(what, before, x);
                }
            }
        }
        SatelliteExchange x = new SatelliteExchange();
        Check.advanceTo(x, 9999);
        Check.due("the last frame", 9999, x.now());
        Check.due("undo of the last advance", 9, x.undo());
        Check.due("frame before the last advance", 9800, x.now());
    }

    private static void acquiringAtItsBounds() {
        for (int n = 0; n <= 6; n += 2) {
            for (int s : new int[] {-1, 0, n - 1, n, 6, Integer.MIN_VALUE, Integer.MAX_VALUE}) {
                SatelliteExchange x = Check.loaded(SIX.substring(0, 20 * n));
                x.advance(2);
                boolean due = s >= 0 && s < n;
                String before = Check.picture(x);
                Check.due("acquire(" + s + ") of " + n, due, x.acquire(s));
                Check.due("undoCount behind acquire(" + s + ") of " + n, due ? 2 : 1, x.undoCount());
                for (int k = 0; k < n; k++) {
                    int error = Check.loaded(SIX).errorAfter(k, 2);
                    Check.due("error of " + k + " behind acquire(" + s + ")", k == s ? 0 : error, x.timingError(k));
                }
                if (!due) {
                    Check.unchanged("acquire(" + s + ") of " + n, before, x);
                }
            }
        }
    }

    private static void acquiringForgetsEarlierErrors() {
        // The longest round trip: an error of 51 frames ago would come back in the next frame.
        SatelliteExchange x = Check.loaded("set length 200;set gain 100;station a 5000 2 0 0;station b 5000 2 0 0;");
        x.advance(120);
        x.acquire(0);
        for (int ahead = 0; ahead <= 51; ahead++) {
            Check.due("error " + ahead + " frames behind acquire", 2 * ahead, x.errorAfter(0, ahead));
        }
        Check.due("the first echo behind acquire", 102, x.errorAfter(0, 52));
        Check.due("then the second one", 100, x.errorAfter(0, 53));
        Check.due("the power and the fault count stay", 0, x.power(0) + x.timingFaults(0));
        x.advance(53);
        Check.due("passed", 100, x.timingError(0));
        x.acquire(0);
        x.acquire(0);
        Check.due("acquire of a station that has no error is a change too", 5, x.undoCount());
    }

    /** In whichever frame: no earlier error is left, and so none comes back. */
    private static void acquiringInEachFrame() {
        for (int frame = 1; frame <= 140; frame++) {
            SatelliteExchange x = Check.loaded("set length 200;set gain 100;station a 5000 2 0 0;");
            Check.advanceTo(x, frame);
            x.acquire(0);
            Check.due("timingError behind acquire in frame " + frame, 0, x.timingError(0));
            for (int ahead = 1; ahead <= 51; ahead++) {
                Check.due("error " + ahead + " frames behind acquire in frame " + frame, 2 * ahead, x.errorAfter(0, ahead));
            }
        }
    }

    private static void errorsAhead() {
        SatelliteExchange x = Check.loaded("set length 200;station a 5000 2 0 0;");
        int[][] due = {{-1, Integer.MIN_VALUE}, {0, 0}, {1, 2}, {51, 102}, {201, Integer.MIN_VALUE},
            {202, Integer.MIN_VALUE}, {Integer.MIN_VALUE, Integer.MIN_VALUE}, {Integer.MAX_VALUE, Integer.MIN_VALUE}};
        for (int[] one : due) {
            Check.due("errorAfter " + one[0], one[1], x.errorAfter(0, one[0]));
        }
        int at199 = x.errorAfter(0, 199);
        int at200 = x.errorAfter(0, 200);
        Check.due("the frame stays", 0, x.now());
        Check.due("the error stays", 0, x.timingError(0));
        x.advance(199);
        Check.due("errorAfter 199, passed", x.timingError(0), at199);
        Check.due("errorAfter 0, passed", x.timingError(0), x.errorAfter(0, 0));
        x.advance(1);
        Check.due("errorAfter 200, passed", x.timingError(0), at200);
    }

    private static void errorsBeyondTheEnd() {
        SatelliteExchange x = Check.loaded("station a 0 5 0 0;");
        Check.advanceTo(x, 9999);
        x.acquire(0);
        int[] due = {0, 5, 8, 9, 10, 10};
        for (int ahead = 0; ahead < due.length; ahead++) {
            Check.due("errorAfter " + ahead + " at the end", due[ahead], x.errorAfter(0, ahead));
        }
        Check.due("errorAfter 200 at the end", 10, x.errorAfter(0, 200));
        Check.due("errorAfter 201 at the end", Integer.MIN_VALUE, x.errorAfter(0, 201));
        Check.due("errorAfter -1 at the end", Integer.MIN_VALUE, x.errorAfter(0, -1));
    }

    private static void powersAhead() {
        SatelliteExchange x = Check.loaded("set step 1;station a 0 0 100 999;rain a 1 9999 400;");
        int[][] due = {{-1, BAD_VALUE}, {0, 100}, {1, 101}, {199, 299}, {200, 300}, {201, BAD_VALUE},
            {Integer.MIN_VALUE, BAD_VALUE}, {Integer.MAX_VALUE, BAD_VALUE}};
        for (int[] one : due) {
            Check.due("powerAfter " + one[0], one[1], x.powerAfter(0, one[0]));
        }
        Check.due("the power stays", 100, x.power(0));
        Check.due("the frame stays", 0, x.now());
    }

    private static void powersAtTheEnd() {
        for (int left : new int[] {0, 1, 2, 199, 200, 201}) {
            SatelliteExchange x = Check.loaded("set step 1;station a 0 0 100 999;rain a " + (10000 - Math.max(1, left))
                    + " 9999 400;");
            Check.advanceTo(x, 9999 - left);
            int now = x.power(0);
            for (int frames : new int[] {0, 1, left - 1, left, left + 1, 200}) {
                int due = frames < 0 || frames > 200 ? BAD_VALUE : frames > left ? NOT_FOUND : now + frames;
                Check.due("powerAfter " + frames + " with " + left + " left", due, x.powerAfter(0, frames));
            }
            Check.due("powerAfter 201 with " + left + " left", BAD_VALUE, x.powerAfter(0, 201));
            Check.due("powerAfter -1 with " + left + " left", BAD_VALUE, x.powerAfter(0, -1));
        }
    }

    private static void framesInTimeAtTheirBounds() {
        // Without echo the error grows by 1 a frame, to at most 51 frames; then an echo of a gain of 1 corrects nothing.
        String slow = "set length 200;set gain 1;station a 5000 1 0 0;set guard ";
        SatelliteExchange x = Check.loaded(slow + "99;");
        Check.due("framesInTime 50", 50, x.framesInTime(0));
        x.advance(49);
        Check.due("framesInTime one frame before", 1, x.framesInTime(0));
        x.advance(1);
        Check.due("framesInTime in the first frame out of time", 0, x.framesInTime(0));
        x.advance(1);
        Check.due("framesInTime a frame later", 0, x.framesInTime(0));
        // An error of 100 comes in frame 100; its echo is corrected by 1 from frame 151 on, and by 2 behind.
        Check.due("framesInTime with guard 199", 100, Check.loaded(slow + "199;").framesInTime(0));
        Check.due("framesInTime with guard 200", 101, Check.loaded(slow + "200;").framesInTime(0));
        String late = ";set gain 33;station a 2500 4 0 0;";
        Check.due("framesInTime 200", 200, Check.loaded("set guard 197" + late).framesInTime(0));
        x = Check.loaded("set guard 198" + late);
        Check.due("framesInTime 201", NOT_FOUND, x.framesInTime(0));
        x.advance(1);
        Check.due("framesInTime 201, a frame later", 200, x.framesInTime(0));
        x = Check.loaded("station a 0 5 0 0;");
        Check.advanceTo(x, 9999);
        x.acquire(0);
        Check.due("framesInTime at the end", 2, x.framesInTime(0));
    }

    private static void busiestAtItsBounds() {
        Check.due("busiestStation of a new exchange", NOT_FOUND, new SatelliteExchange().busiestStation());
        SatelliteExchange x = Check.loaded("carriers 4;" + SIX);
        Check.due("busiestStation without calls", NOT_FOUND, x.busiestStation());
        x.request(5, 4, 0, 2000, 9);
        Check.due("busiestStation with a waiting call", NOT_FOUND, x.busiestStation());
        x.request(5, 4, 0, 1, 9);
        Check.due("busiestStation of two that are alike", 4, x.busiestStation());
        x.request(0, 5, 0, 1, 9);
        Check.due("busiestStation, the last one", 5, x.busiestStation());
        x.request(0, 1, 0, 1, 1);
        Check.due("busiestStation, the first one of two", 0, x.busiestStation());
        x.advance(1);
        Check.due("busiestStation when one has ended", 5, x.busiestStation());
        x.release(1);
        Check.due("busiestStation when one was released", 0, x.busiestStation());
        x.release(2);
        Check.due("busiestStation when all have ended", NOT_FOUND, x.busiestStation());
    }

    private static void loadsAtTheirBounds() {
        SatelliteExchange x = Check.loaded(SIX + "call f a 0 30 9;call f b 0 2000 9;call a f 0 5 2;call f c 0 1 9;");
        int[] due = {25, 0, 0, 0, 0, 50 + 21};
        for (int s = 0; s < 6; s++) {
            Check.due("loadOf " + s, due[s], x.loadOf(s));
        }
        x.advance(2);
        Check.due("loadOf when its call has ended", 0, x.loadOf(0));
        x.release(0);
        Check.due("loadOf when one was released", 21, x.loadOf(5));
    }
}
