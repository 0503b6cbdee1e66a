/**
 * A demand-assigned satellite exchange: calls between earth stations are assigned bursts in the frames of some
 * carriers, wait in a queue by priority, and release their bursts when they end; the stations keep their timing by
 * echoes and fight rain by their uplink power.
 *
 * <p>A set of calls is an int throughout: bit k is 1 for call k.
 */
public final class SatelliteExchange {
    public static final int LENGTH = 0, GUARD = 1, REFERENCE = 2, PREAMBLE = 3, LEVEL = 4, STEP = 5, GAIN = 6;
    public static final int WAITING = 0, ACTIVE = 1, ENDED = 2;
    public static final int NOT_FOUND = -1;
    public static final int BAD_VALUE = -2;
    public static final int FULL = -3;
    public static final int SYNTAX_ERROR = -11, RANGE_ERROR = -12, NAME_ERROR = -13, DUPLICATE_ERROR = -14,
            ORDER_ERROR = -15, COUNT_ERROR = -16;

    private static final int MAX_STATIONS = 6;
    private static final int MAX_CALLS = 16;
    private static final int MAX_CARRIERS = 4;
    private static final int MAX_RAINS = 8;
    private static final int MAX_DELAY = 5000;
    private static final int MAX_DRIFT = 50;
    private static final int MAX_POWER = 999;
    private static final int MAX_FADE = 400;
    private static final int MAX_PRIORITY = 9;
    private static final int MAX_SYMBOLS = 2000;
    private static final int MAX_HOLD = 9999;
    private static final int MAX_TIMING_ERROR = 100000;
    private static final int LAST_FRAME = 9999;
    /** The most frames that one call lets pass, or looks ahead. */
    private static final int MAX_FRAMES = 200;
    private static final int KEPT_CHANGES = 10;
    private static final int BUFFER_SIZE = 1000;
    private static final int NO_TIMING_ERROR = -2147483648;

    private static final int SETTINGS = 7;
    private static final int[] LEAST_SETTING = {200, 0, 1, 1, 0, 1, 1};
    private static final int[] GREATEST_SETTING = {5000, 200, 500, 200, 999, 100, 100};
    private static final int[] INITIAL_SETTING = {1000, 10, 50, 20, 300, 20, 50};

    private final State current = new State();
    /** What would be: every look at another course of things is tried here, so that no call makes new rows. */
    private final State trial = new State();
    private final Station probe = new Station();
    private final History history = new History();
    private final Loader loader = new Loader();

    public SatelliteExchange() {
    }

    // Loading

    public int feed(int a, int b, int c, int d, int e) {
        return loader.append(a, b, c, d, e);
    }

    public int load(int length) {
        if (length < 0 || length > loader.tokens.fed) {
            return BAD_VALUE;
        }
        int result = loader.readText(length);
        if (result >= 0) {
            current.copyFrom(loader.result);
            history.count = 0;
        }
        return result;
    }

    public int errorPosition() {
        return loader.errorPlace;
    }

    // The exchange

    public int stationCount() {
        return current.stationTotal;
    }

    public int callCount() {
        return current.callTotal;
    }

    public int carrierCount() {
        return current.carriers;
    }

    public int undoCount() {
        return history.count;
    }

    public int stationNamed(int letters) {
        return current.stationWithName(letters);
    }

    public int now() {
        return current.frame;
    }

    public int getSetting(int setting) {
        return inRange(setting, 0, SETTINGS - 1) ? current.settings[setting] : BAD_VALUE;
    }

    // Stations

    public int fade(int station, int frame) throws IndexOutOfBoundsException {
        checkedStation(station);
        return inRange(frame, 0, LAST_FRAME) ? current.fadeIn(station, frame) : BAD_VALUE;
    }

    public int power(int station) throws IndexOutOfBoundsException {
        return checkedStation(station).power;
    }

    public int timingError(int station) throws IndexOutOfBoundsException {
        return checkedStation(station).errorIn(current.frame);
    }

    public int roundTrip(int station) throws IndexOutOfBoundsException {
        return current.tripOf(checkedStation(station));
    }

    public int timingFaults(int station) throws IndexOutOfBoundsException {
        return checkedStation(station).faults;
    }

    public int busiestStation() {
        int busiest = NOT_FOUND;
        int most = 0;
        for (int s = 0; s < current.stationTotal; s++) {
            int calls = current.activeCallsWith(s);
            if (calls > most) {
                busiest = s;
                most = calls;
            }
        }
        return busiest;
    }

    public int loadOf(int station) throws IndexOutOfBoundsException {
        checkedStation(station);
        int symbols = 0;
        for (int k = 0; k < current.callTotal; k++) {
            Call call = current.calls[k];
            if (call.state == ACTIVE && call.sender == station) {
                symbols += call.burst;
            }
        }
        return symbols;
    }

    public int errorAfter(int station, int frames) throws IndexOutOfBoundsException {
        Station present = checkedStation(station);
        if (!inRange(frames, 0, MAX_FRAMES)) {
            return NO_TIMING_ERROR;
        }
        probe.copyFrom(present);
        int target = current.frame + frames;
        for (int f = current.frame + 1; f <= target; f++) {
            probe.keepTime(f, current.tripOf(probe), current.settings[GAIN]);
        }
        return probe.errorIn(target);
    }

    public int powerAfter(int station, int frames) throws IndexOutOfBoundsException {
        int power = checkedStation(station).power;
        if (!inRange(frames, 0, MAX_FRAMES)) {
            return BAD_VALUE;
        }
        int target = current.frame + frames;
        if (target > LAST_FRAME) {
            return NOT_FOUND;
        }
        for (int f = current.frame + 1; f <= target; f++) {
            power = current.nextPower(station, power, f);
        }
        return power;
    }

    public int framesInTime(int station) throws IndexOutOfBoundsException {
        probe.copyFrom(checkedStation(station));
        for (int passed = 0; passed <= MAX_FRAMES; passed++) {
            int frame = current.frame + passed;
            if (probe.isOutOfTime(frame, current.settings[GUARD])) {
                return passed;
            }
            probe.keepTime(frame + 1, current.tripOf(probe), current.settings[GAIN]);
        }
        return NOT_FOUND;
    }

    // Calls

    public int stateOf(int call) throws IndexOutOfBoundsException {
        return checkedCall(call).state;
    }

    public int senderOf(int call) throws IndexOutOfBoundsException {
        return checkedCall(call).sender;
    }

    public int receiverOf(int call) throws IndexOutOfBoundsException {
        return checkedCall(call).receiver;
    }

    public int priorityOf(int call) throws IndexOutOfBoundsException {
        return checkedCall(call).priority;
    }

    public int carrierOf(int call) throws IndexOutOfBoundsException {
        Call asked = checkedCall(call);
        return asked.state == ACTIVE ? asked.carrier : NOT_FOUND;
    }

    public int startOf(int call) throws IndexOutOfBoundsException {
        Call asked = checkedCall(call);
        return asked.state == ACTIVE ? asked.start : NOT_FOUND;
    }

    public int burstOf(int call) throws IndexOutOfBoundsException {
        return checkedCall(call).burst;
    }

    public int sendOffset(int call) throws IndexOutOfBoundsException {
        Call asked = checkedCall(call);
        int length = current.settings[LENGTH];
        if (asked.state != ACTIVE || length <= 0) {
            return NOT_FOUND;
        }
        return Math.floorMod(asked.start - current.stations[asked.sender].delay, length);
    }

    public int endOf(int call) throws IndexOutOfBoundsException {
        Call asked = checkedCall(call);
        return asked.state == ACTIVE ? asked.endFrame() : NOT_FOUND;
    }

    public int waitOf(int call) throws IndexOutOfBoundsException {
        Call asked = checkedCall(call);
        if (asked.state == WAITING) {
            return current.frame - asked.requested;
        }
        return asked.begun == NOT_FOUND ? NOT_FOUND : asked.begun - asked.requested;
    }

    public int marginOf(int call) throws IndexOutOfBoundsException {
        return current.presentMargin(checkedCall(call));
    }

    public int degradedFrames(int call) throws IndexOutOfBoundsException {
        return checkedCall(call).degraded;
    }

    public int degradedNow() {
        return current.degradedAmong(current.callsIn(ACTIVE));
    }

    public int conflicts(int call) throws IndexOutOfBoundsException {
        Call asked = checkedCall(call);
        if (asked.state != ACTIVE) {
            return 0;
        }
        int found = 0;
        for (int k = 0; k < current.callTotal; k++) {
            Call other = current.calls[k];
            if (k != call && other.state == ACTIVE && other.conflictsWith(asked, asked.carrier)) {
                found |= 1 << k;
            }
        }
        return found;
    }

    public int clearFrame(int call) throws IndexOutOfBoundsException {
        Call asked = checkedCall(call);
        int last = Math.min(current.frame + MAX_FRAMES, LAST_FRAME);
        int power = current.stations[asked.sender].power;
        for (int f = current.frame; f <= last; f++) {
            if (f > current.frame) {
                power = current.nextPower(asked.sender, power, f);
            }
            if (current.marginWith(asked, power, f) >= 0) {
                return f;
            }
        }
        return NOT_FOUND;
    }

    // The queue

    public int queuedAt(int position) {
        int left = current.callsIn(WAITING);
        if (position < 0 || position >= Integer.bitCount(left)) {
            return NOT_FOUND;
        }
        for (int i = 0; i < position; i++) {
            left &= ~(1 << current.firstInOrder(left));
        }
        return current.firstInOrder(left);
    }

    public int queueLength() {
        return Integer.bitCount(current.callsIn(WAITING));
    }

    public boolean fitsWithout(int call, int calls) throws IndexOutOfBoundsException {
        Call asked = checkedCall(call);
        if (asked.state != WAITING) {
            return false;
        }
        for (int c = 0; c < current.carriers; c++) {
            if (current.leastStart(asked, c, calls) != NOT_FOUND) {
                return true;
            }
        }
        return false;
    }

    public int callsToDrop(int call) throws IndexOutOfBoundsException {
        Call asked = checkedCall(call);
        return asked.state == WAITING ? current.fewestInTheWay(asked) : NOT_FOUND;
    }

    public int earliestStart(int call, int carrier) throws IndexOutOfBoundsException {
        Call asked = checkedCall(call);
        checkCarrier(carrier);
        return asked.state == WAITING ? current.leastStart(asked, carrier, 0) : NOT_FOUND;
    }

    public int framesToWait(int call) throws IndexOutOfBoundsException {
        if (checkedCall(call).state != WAITING) {
            return NOT_FOUND;
        }
        trial.copyFrom(current);
        for (int passed = 1; passed <= MAX_FRAMES && trial.frame < LAST_FRAME; passed++) {
            trial.frame++;
            trial.endAndServe();
            if (trial.calls[call].state == ACTIVE) {
                return passed;
            }
        }
        return NOT_FOUND;
    }

    // Carriers

    public int callsOn(int carrier) throws IndexOutOfBoundsException {
        checkCarrier(carrier);
        int calls = 0;
        for (int k = 0; k < current.callTotal; k++) {
            if (current.calls[k].isOn(carrier)) {
                calls++;
            }
        }
        return calls;
    }

    public int usedSymbols(int carrier) throws IndexOutOfBoundsException {
        checkCarrier(carrier);
        int symbols = 0;
        for (int k = 0; k < current.callTotal; k++) {
            if (current.calls[k].isOn(carrier)) {
                symbols += current.calls[k].burst;
            }
        }
        return symbols;
    }

    public int callAt(int carrier, int place) throws IndexOutOfBoundsException {
        checkCarrier(carrier);
        for (int k = 0; k < current.callTotal; k++) {
            if (current.calls[k].isOn(carrier) && current.burstsBefore(carrier, current.calls[k].start) == place) {
                return k;
            }
        }
        return NOT_FOUND;
    }

    public int callOver(int carrier, int symbol) throws IndexOutOfBoundsException {
        checkCarrier(carrier);
        for (int k = 0; k < current.callTotal; k++) {
            Call call = current.calls[k];
            if (call.isOn(carrier) && call.start <= symbol && symbol < call.start + call.burst) {
                return k;
            }
        }
        return NOT_FOUND;
    }

    public int longestFit(int carrier) throws IndexOutOfBoundsException {
        checkCarrier(carrier);
        return current.widestRoom(carrier);
    }

    public int nextEnd() {
        int next = NOT_FOUND;
        for (int k = 0; k < current.callTotal; k++) {
            Call call = current.calls[k];
            if (call.state == ACTIVE && (next == NOT_FOUND || call.endFrame() < next)) {
                next = call.endFrame();
            }
        }
        return next;
    }

    public int carriersNeeded() {
        int alive = current.callsIn(WAITING) | current.callsIn(ACTIVE);
        trial.copyFrom(current);
        for (int carriers = 1; carriers <= MAX_CARRIERS; carriers++) {
            trial.carriers = carriers;
            if (trial.assignAnew(alive)) {
                return carriers;
            }
        }
        return NOT_FOUND;
    }

    // Changes

    public int request(int sender, int receiver, int priority, int symbols, int hold) {
        int lastStation = current.stationTotal - 1;
        if (!inRange(sender, 0, lastStation) || !inRange(receiver, 0, lastStation) || sender == receiver) {
            return NOT_FOUND;
        }
        if (!inRange(priority, 0, MAX_PRIORITY) || !inRange(symbols, 1, MAX_SYMBOLS) || !inRange(hold, 1, MAX_HOLD)) {
            return BAD_VALUE;
        }
        if (current.callTotal >= MAX_CALLS) {
            return FULL;
        }
        history.keep(current);
        int index = current.callTotal;
        current.addCall(sender, receiver, priority, symbols, hold);
        return index;
    }

    public int release(int call) {
        if (!inRange(call, 0, current.callTotal - 1) || current.calls[call].state == ENDED) {
            return NOT_FOUND;
        }
        history.keep(current);
        current.calls[call].state = ENDED;
        return current.placeInOrder(current.callsIn(WAITING));
    }

    public int advance(int frames) {
        if (!inRange(frames, 1, MAX_FRAMES)) {
            return BAD_VALUE;
        }
        if (current.frame + frames > LAST_FRAME) {
            return FULL;
        }
        history.keep(current);
        for (int i = 0; i < frames; i++) {
            current.passFrame();
        }
        return current.frame;
    }

    public int setSetting(int setting, int value) {
        if (!inRange(setting, LEVEL, GAIN)
                || !inRange(value, LEAST_SETTING[setting], GREATEST_SETTING[setting])) {
            return BAD_VALUE;
        }
        history.keep(current);
        int previous = current.settings[setting];
        current.settings[setting] = value;
        return previous;
    }

    public boolean acquire(int station) {
        if (!inRange(station, 0, current.stationTotal - 1)) {
            return false;
        }
        history.keep(current);
        current.stations[station].forgetErrors();
        return true;
    }

    public int compact() {
        int active = current.callsIn(ACTIVE);
        trial.copyFrom(current);
        if (!trial.assignAnew(active)) {
            return FULL;
        }
        trial.placeInOrder(trial.callsIn(WAITING));
        int moved = 0;
        for (int k = 0; k < current.callTotal; k++) {
            if (current.calls[k].state == ACTIVE && !current.calls[k].standsWhere(trial.calls[k])) {
                moved++;
            }
        }
        history.keep(current);
        current.copyFrom(trial);
        return moved;
    }

    public int undo() {
        return history.restore(current) ? history.count : NOT_FOUND;
    }

    // Checks

    private Station checkedStation(int index) {
        if (!inRange(index, 0, current.stationTotal - 1)) {
            throw new IndexOutOfBoundsException("no such station");
        }
        return current.stations[index];
    }

    private Call checkedCall(int index) {
        if (!inRange(index, 0, current.callTotal - 1)) {
            throw new IndexOutOfBoundsException("no such call");
        }
        return current.calls[index];
    }

    private void checkCarrier(int index) {
        if (!inRange(index, 0, current.carriers - 1)) {
            throw new IndexOutOfBoundsException("no such carrier");
        }
    }

    private static boolean inRange(int value, int least, int greatest) {
        return value >= least && value <= greatest;
    }

    /** An earth station. */
    private static final class Station {
        /**
         * A round trip has 50 frames at most, so no frame looks further back than 51 frames; the error of frame f
         * is at f modulo this power of two.
         */
        private static final int REMEMBERED = 64;

        int name;
        int delay;
        int drift;
        int nominal;
        int greatest;
        int power;
        int faults;
        final int[] errors = new int[REMEMBERED];

        void declare(int newName, int newDelay, int newDrift, int newNominal, int newGreatest) {
            name = newName;
            delay = newDelay;
            drift = newDrift;
            nominal = newNominal;
            greatest = newGreatest;
            power = newNominal;
            faults = 0;
            forgetErrors();
        }

        void copyFrom(Station other) {
            name = other.name;
            delay = other.delay;
            drift = other.drift;
            nominal = other.nominal;
            greatest = other.greatest;
            power = other.power;
            faults = other.faults;
            System.arraycopy(other.errors, 0, errors, 0, REMEMBERED);
        }

        void forgetErrors() {
            for (int i = 0; i < REMEMBERED; i++) {
                errors[i] = 0;
            }
        }

        int errorIn(int frame) {
            return errors[frame & REMEMBERED - 1];
        }

        boolean isOutOfTime(int frame, int guard) {
            return Math.abs(errorIn(frame)) * 2 > guard;
        }

        /** Finds the timing error of a frame from those of the frames before it. */
        void keepTime(int frame, int trip, int gain) {
            int echo = frame - 1 - trip;
            int correction = echo < 0 ? 0 : errorIn(echo) * gain / 100;
            int error = errorIn(frame - 1) + drift - correction;
            errors[frame & REMEMBERED - 1] = Math.max(-MAX_TIMING_ERROR, Math.min(MAX_TIMING_ERROR, error));
        }
    }

    /** A rain over a station. */
    private static final class Rain {
        int station;
        int first;
        int last;
        int fading;

        void copyFrom(Rain other) {
            station = other.station;
            first = other.first;
            last = other.last;
            fading = other.fading;
        }
    }

    /** A call; its carrier and its start mean something only while it is active. */
    private static final class Call {
        int sender;
        int receiver;
        int priority;
        /** No statement can change PREAMBLE behind a call, so the length of the burst never changes. */
        int burst;
        int hold;
        int state;
        int carrier;
        int start;
        int requested;
        /** The frame in which the call became active; NOT_FOUND if it never did. */
        int begun;
        int degraded;

        void copyFrom(Call other) {
            sender = other.sender;
            receiver = other.receiver;
            priority = other.priority;
            burst = other.burst;
            hold = other.hold;
            state = other.state;
            carrier = other.carrier;
            start = other.start;
            requested = other.requested;
            begun = other.begun;
            degraded = other.degraded;
        }

        int endFrame() {
            return begun + hold;
        }

        boolean isOn(int asked) {
            return state == ACTIVE && carrier == asked;
        }

        boolean standsWhere(Call other) {
            return carrier == other.carrier && start == other.start;
        }

        /** Whether this active call conflicts with another one if that one is on a carrier. */
        boolean conflictsWith(Call other, int otherCarrier) {
            return carrier == otherCarrier || sender == other.sender || receiver == other.receiver;
        }
    }

    /** All of an exchange that a change can change and undo gives back. */
    private static final class State {
        int frame;
        int carriers;
        final int[] settings = new int[SETTINGS];
        int stationTotal;
        final Station[] stations = new Station[MAX_STATIONS];
        int rainTotal;
        final Rain[] rains = new Rain[MAX_RAINS];
        int callTotal;
        final Call[] calls = new Call[MAX_CALLS];

        State() {
            for (int i = 0; i < MAX_STATIONS; i++) {
                stations[i] = new Station();
            }
            for (int i = 0; i < MAX_RAINS; i++) {
                rains[i] = new Rain();
            }
            for (int i = 0; i < MAX_CALLS; i++) {
                calls[i] = new Call();
            }
            clear();
        }

        void clear() {
            frame = 0;
            carriers = 1;
            stationTotal = 0;
            rainTotal = 0;
            callTotal = 0;
            System.arraycopy(INITIAL_SETTING, 0, settings, 0, SETTINGS);
        }

        void copyFrom(State other) {
            frame = other.frame;
            carriers = other.carriers;
            stationTotal = other.stationTotal;
            rainTotal = other.rainTotal;
            callTotal = other.callTotal;
            System.arraycopy(other.settings, 0, settings, 0, SETTINGS);
            for (int i = 0; i < stationTotal; i++) {
                stations[i].copyFrom(other.stations[i]);
            }
            for (int i = 0; i < rainTotal; i++) {
                rains[i].copyFrom(other.rains[i]);
            }
            for (int i = 0; i < callTotal; i++) {
                calls[i].copyFrom(other.calls[i]);
            }
        }

        // Declarations

        int stationWithName(int name) {
            for (int i = 0; i < stationTotal; i++) {
                if (stations[i].name == name) {
                    return i;
                }
            }
            return NOT_FOUND;
        }

        void addStation(int name, int delay, int drift, int nominal, int greatest) {
            if (stationTotal < MAX_STATIONS) {
                stations[stationTotal].declare(name, delay, drift, nominal, greatest);
                stationTotal++;
            }
        }

        void addRain(int station, int first, int last, int fading) {
            if (rainTotal < MAX_RAINS) {
                Rain rain = rains[rainTotal];
                rain.station = station;
                rain.first = first;
                rain.last = last;
                rain.fading = fading;
                rainTotal++;
            }
        }

        /** Requests a call in the present frame, which becomes active if it can. */
        void addCall(int sender, int receiver, int priority, int symbols, int hold) {
            if (callTotal < MAX_CALLS) {
                Call call = calls[callTotal];
                callTotal++;
                call.sender = sender;
                call.receiver = receiver;
                call.priority = priority;
                call.burst = settings[PREAMBLE] + symbols;
                call.hold = hold;
                call.state = WAITING;
                call.requested = frame;
                call.begun = NOT_FOUND;
                call.degraded = 0;
                place(call);
            }
        }

        // Timing and power

        int tripOf(Station station) {
            int length = settings[LENGTH];
            return length > 0 ? (2 * station.delay + length - 1) / length : 0;
        }

        int fadeIn(int station, int asked) {
            int sum = 0;
            for (int i = 0; i < rainTotal; i++) {
                Rain rain = rains[i];
                if (rain.station == station && inRange(asked, rain.first, rain.last)) {
                    sum += rain.fading;
                }
            }
            return sum;
        }

        /** The power of a station in a frame if it has the given power in the frame before. */
        int nextPower(int station, int before, int asked) {
            int step = settings[STEP];
            int aim = Math.min(stations[station].nominal + fadeIn(station, asked), stations[station].greatest);
            return before + Math.max(-step, Math.min(step, aim - before));
        }

        /** The margin of a call in a frame if its sender has the given power in it. */
        int marginWith(Call call, int power, int asked) {
            return power - fadeIn(call.sender, asked) - fadeIn(call.receiver, asked) - settings[LEVEL];
        }

        int presentMargin(Call call) {
            return marginWith(call, stations[call.sender].power, frame);
        }

        int degradedAmong(int set) {
            int found = 0;
            for (int k = 0; k < callTotal; k++) {
                if (isIn(set, k) && presentMargin(calls[k]) < 0) {
                    found |= 1 << k;
                }
            }
            return found;
        }

        // Sets of calls

        static boolean isIn(int set, int call) {
            return (set >> call & 1) != 0;
        }

        int callsIn(int state) {
            int set = 0;
            for (int k = 0; k < callTotal; k++) {
                if (calls[k].state == state) {
                    set |= 1 << k;
                }
            }
            return set;
        }

        /** The call of a set that comes first in the order of the queue; NOT_FOUND if the set is empty. */
        int firstInOrder(int set) {
            int first = NOT_FOUND;
            for (int k = 0; k < callTotal; k++) {
                if (isIn(set, k) && (first == NOT_FOUND || calls[k].priority > calls[first].priority)) {
                    first = k;
                }
            }
            return first;
        }

        int activeCallsWith(int station) {
            int count = 0;
            for (int k = 0; k < callTotal; k++) {
                Call call = calls[k];
                if (call.state == ACTIVE && (call.sender == station || call.receiver == station)) {
                    count++;
                }
            }
            return count;
        }

        int burstsBefore(int carrier, int start) {
            int count = 0;
            for (int k = 0; k < callTotal; k++) {
                if (calls[k].isOn(carrier) && calls[k].start < start) {
                    count++;
                }
            }
            return count;
        }

        // Assigning

        int firstStart() {
            return settings[REFERENCE] + settings[GUARD];
        }

        int lastStart(Call call) {
            return settings[LENGTH] - settings[GUARD] - call.burst;
        }

        /** The first symbol that a call in conflict with this active one may use behind it. */
        int freeBehind(Call call) {
            return call.start + call.burst + settings[GUARD];
        }

        /** The active calls that are in the way of a waiting call's burst at a start on a carrier. */
        int callsInTheWay(Call call, int carrier, int start) {
            int behind = start + call.burst + settings[GUARD];
            int found = 0;
            for (int k = 0; k < callTotal; k++) {
                Call other = calls[k];
                if (other.state == ACTIVE && start < freeBehind(other) && other.start < behind
                        && other.conflictsWith(call, carrier)) {
                    found |= 1 << k;
                }
            }
            return found;
        }

        /** The least start of a waiting call on a carrier if the calls of a set had ended; NOT_FOUND if none. */
        int leastStart(Call call, int carrier, int without) {
            int start = firstStart();
            // Each round leaves at least one active call behind, so there are fewer rounds than calls.
            for (int round = 0; round < MAX_CALLS && start <= lastStart(call); round++) {
                int inTheWay = callsInTheWay(call, carrier, start) & ~without;
                if (inTheWay == 0) {
                    return start;
                }
                for (int k = 0; k < callTotal; k++) {
                    if (isIn(inTheWay, k)) {
                        start = Math.max(start, freeBehind(calls[k]));
                    }
                }
            }
            return NOT_FOUND;
        }

        /** Makes a waiting call active if there is a burst for it; tells whether there was. */
        boolean place(Call call) {
            int start = NOT_FOUND;
            for (int c = 0; c < carriers; c++) {
                int least = leastStart(call, c, 0);
                if (least != NOT_FOUND && (start == NOT_FOUND || least < start)) {
                    start = least;
                    call.carrier = c;
                }
            }
            if (start == NOT_FOUND) {
                return false;
            }
            call.start = start;
            call.state = ACTIVE;
            // A call that is assigned anew keeps the frame in which it became active.
            if (call.begun == NOT_FOUND) {
                call.begun = frame;
            }
            return true;
        }

        /** Tries the waiting calls of a set in the order of the queue, each once; answers how many became active. */
        int placeInOrder(int set) {
            int left = set;
            int placed = 0;
            for (int i = 0; i < callTotal; i++) {
                int k = firstInOrder(left);
                if (k == NOT_FOUND) {
                    break;
                }
                left &= ~(1 << k);
                if (place(calls[k])) {
                    placed++;
                }
            }
            return placed;
        }

        /** Assigns the calls of a set as if they were waiting, without any burst of theirs at first. */
        boolean assignAnew(int set) {
            for (int k = 0; k < callTotal; k++) {
                if (isIn(set, k)) {
                    calls[k].state = WAITING;
                }
            }
            return placeInOrder(set) == Integer.bitCount(set);
        }

        /** The fewest active calls of lower priority that are in the way of a waiting call. */
        int fewestInTheWay(Call call) {
            // From any start, going down to the next of these brings no further call into the way.
            int fewest = droppableAt(call, firstStart());
            for (int k = 0; k < callTotal; k++) {
                if (calls[k].state == ACTIVE) {
                    fewest = fewer(fewest, droppableAt(call, freeBehind(calls[k])));
                }
            }
            return fewest;
        }

        /** The fewest calls in the way at a start, over all carriers where all of them have a lower priority. */
        private int droppableAt(Call call, int start) {
            int fewest = NOT_FOUND;
            for (int c = 0; c < carriers && start <= lastStart(call); c++) {
                int inTheWay = callsInTheWay(call, c, start);
                int first = firstInOrder(inTheWay);
                if (first == NOT_FOUND || calls[first].priority < call.priority) {
                    fewest = fewer(fewest, inTheWay);
                }
            }
            return fewest;
        }

        /** The set with fewer calls, or else with the smaller number; NOT_FOUND stands for no set. */
        private static int fewer(int one, int other) {
            if (one == NOT_FOUND || other == NOT_FOUND) {
                return one == NOT_FOUND ? other : one;
            }
            int difference = Integer.bitCount(one) - Integer.bitCount(other);
            return difference < 0 || difference == 0 && one < other ? one : other;
        }

        /** The length of the longest burst that fits on a carrier; 0 if none does. */
        int widestRoom(int carrier) {
            int widest = Math.max(0, roomFrom(carrier, firstStart()));
            for (int k = 0; k < callTotal; k++) {
                if (calls[k].isOn(carrier)) {
                    widest = Math.max(widest, roomFrom(carrier, freeBehind(calls[k])));
                }
            }
            return widest;
        }

        /** The symbols from a start to the guard before the next burst of a carrier or the end of the frame. */
        private int roomFrom(int carrier, int start) {
            int limit = settings[LENGTH];
            for (int k = 0; k < callTotal; k++) {
                if (calls[k].isOn(carrier) && calls[k].start >= start) {
                    limit = Math.min(limit, calls[k].start);
                }
            }
            return limit - settings[GUARD] - start;
        }

        // Frames

        void passFrame() {
            frame++;
            for (int s = 0; s < stationTotal; s++) {
                Station station = stations[s];
                station.keepTime(frame, tripOf(station), settings[GAIN]);
                station.power = nextPower(s, station.power, frame);
            }
            int before = callsIn(ACTIVE);
            endAndServe();
            countTroubles(before & callsIn(ACTIVE));
        }

        void endAndServe() {
            boolean ended = false;
            for (int k = 0; k < callTotal; k++) {
                if (calls[k].state == ACTIVE && calls[k].endFrame() <= frame) {
                    calls[k].state = ENDED;
                    ended = true;
                }
            }
            // A call that found no burst finds none before a burst is released.
            if (ended) {
                placeInOrder(callsIn(WAITING));
            }
        }

        private void countTroubles(int set) {
            int degraded = degradedAmong(set);
            int senders = 0;
            for (int k = 0; k < callTotal; k++) {
                if (isIn(set, k)) {
                    senders |= 1 << calls[k].sender;
                }
                if (isIn(degraded, k)) {
                    calls[k].degraded++;
                }
            }
            for (int s = 0; s < stationTotal; s++) {
                if (isIn(senders, s) && stations[s].isOutOfTime(frame, settings[GUARD])) {
                    stations[s].faults++;
                }
            }
        }
    }

    /** The states before the latest changes, the oldest first. */
    private static final class History {
        int count;
        private final State[] kept = new State[KEPT_CHANGES];

        History() {
            for (int i = 0; i < KEPT_CHANGES; i++) {
                kept[i] = new State();
            }
        }

        void keep(State state) {
            if (count >= KEPT_CHANGES) {
                dropOldest();
            }
            kept[count].copyFrom(state);
            count++;
        }

        /** Gives the latest kept state back; false if none is kept. */
        boolean restore(State state) {
            if (count <= 0) {
                return false;
            }
            count--;
            state.copyFrom(kept[count]);
            return true;
        }

        private void dropOldest() {
            // Its rows go to the end, to be filled again.
            State oldest = kept[0];
            for (int i = 1; i < KEPT_CHANGES; i++) {
                kept[i - 1] = kept[i];
            }
            kept[KEPT_CHANGES - 1] = oldest;
            count = KEPT_CHANGES - 1;
        }
    }

    /** The input buffer, and the tokens of the text in its first bytes. */
    private static final class Tokens {
        static final int END = 0, WORD = 1, INTEGER = 2, SEMICOLON = 3, MINUS = 4, OTHER = 5;
        static final int NAME_LETTERS = 6;
        /** Above every range, and small enough for one more digit. */
        private static final int HUGE = 1000000;

        int fed;
        private final byte[] text = new byte[BUFFER_SIZE];
        private int length;
        private int next;
        int kind;
        int start;
        /** The value of an integer, HUGE if it is greater. */
        int value;

        void appendWord(int word) {
            for (int shift = 24; shift >= 0 && fed < BUFFER_SIZE; shift -= 8) {
                text[fed] = (byte) (word >> shift);
                fed++;
            }
        }

        void begin(int textLength) {
            length = Math.min(textLength, fed);
            next = 0;
            step();
        }

        /** Goes to the next token. */
        void step() {
            while (next < length && (signAt(next) == ' ' || signAt(next) == '\n')) {
                next++;
            }
            start = next;
            int sign = signAt(start);
            if (start >= length) {
                kind = END;
            } else if (isLetter(sign)) {
                kind = WORD;
                while (next < length && isLetter(signAt(next))) {
                    next++;
                }
            } else if (isDigit(sign)) {
                kind = INTEGER;
                value = 0;
                while (next < length && isDigit(signAt(next))) {
                    value = Math.min(HUGE, 10 * value + signAt(next) - '0');
                    next++;
                }
            } else {
                kind = sign == ';' ? SEMICOLON : sign == '-' ? MINUS : OTHER;
                next++;
            }
        }

        boolean isWord(String word) {
            if (kind != WORD || next - start != word.length()) {
                return false;
            }
            for (int i = 0; i < word.length(); i++) {
                if (signAt(start + i) != word.charAt(i)) {
                    return false;
                }
            }
            return true;
        }

        boolean isShortWord() {
            return kind == WORD && next - start <= NAME_LETTERS;
        }

        /** A short word as groups of 5 bits, the first letter in the highest group. */
        int packedLetters() {
            int packed = 0;
            for (int i = 0; i < NAME_LETTERS; i++) {
                int letter = start + i < next ? signAt(start + i) - 'a' + 1 : 0;
                packed = packed << 5 | letter;
            }
            return packed;
        }

        private int signAt(int place) {
            return place >= 0 && place < length && place < BUFFER_SIZE ? text[place] & 255 : NOT_FOUND;
        }

        private static boolean isLetter(int sign) {
            return sign >= 'a' && sign <= 'z';
        }

        private static boolean isDigit(int sign) {
            return sign >= '0' && sign <= '9';
        }
    }

    /**
     * Reads a text into a state. Once an error is found, what reads on does nothing, so that a statement is written
     * here as it stands in the grammar.
     */
    private static final class Loader {
        final Tokens tokens = new Tokens();
        final State result = new State();
        /** The position of the error of the latest text; NOT_FOUND if it had none. */
        int errorPlace = NOT_FOUND;
        private int error;
        private boolean carriersGiven;
        /** A bit for each setting that was given. */
        private int settingsGiven;

        int append(int a, int b, int c, int d, int e) {
            if (tokens.fed + 20 > BUFFER_SIZE) {
                return FULL;
            }
            tokens.appendWord(a);
            tokens.appendWord(b);
            tokens.appendWord(c);
            tokens.appendWord(d);
            tokens.appendWord(e);
            return tokens.fed;
        }

        /** Empties the buffer; answers the number of statements or the code of the first error. */
        int readText(int length) {
            result.clear();
            error = 0;
            errorPlace = NOT_FOUND;
            carriersGiven = false;
            settingsGiven = 0;
            tokens.begin(length);
            int statements = 0;
            while (statements < BUFFER_SIZE && error == 0 && tokens.kind != Tokens.END) {
                if (tokens.isWord("carriers")) {
                    readCarriers();
                } else if (tokens.isWord("station")) {
                    readStation();
                } else if (tokens.isWord("rain")) {
                    readRain();
                } else if (tokens.isWord("call")) {
                    readCall();
                } else if (tokens.isWord("set")) {
                    readSet();
                } else {
                    fail(SYNTAX_ERROR);
                }
                statements++;
            }
            tokens.fed = 0;
            return error == 0 ? statements : error;
        }

        private void readCarriers() {
            if (carriersGiven) {
                fail(DUPLICATE_ERROR);
            } else if (result.callTotal > 0) {
                fail(ORDER_ERROR);
            }
            accept();
            int carriers = readNumber(1, MAX_CARRIERS);
            readSemicolon();
            if (error == 0) {
                carriersGiven = true;
                result.carriers = carriers;
            }
        }

        private void readStation() {
            if (result.stationTotal >= MAX_STATIONS) {
                fail(COUNT_ERROR);
            }
            accept();
            int name = readNewName();
            int delay = readNumber(0, MAX_DELAY);
            int sign = 1;
            if (tokens.kind == Tokens.MINUS) {
                sign = -1;
                accept();
            }
            int drift = sign * readNumber(0, MAX_DRIFT);
            int nominal = readNumber(0, MAX_POWER);
            int greatest = readNumber(nominal, MAX_POWER);
            readSemicolon();
            if (error == 0) {
                result.addStation(name, delay, drift, nominal, greatest);
            }
        }

        private void readRain() {
            if (result.rainTotal >= MAX_RAINS) {
                fail(COUNT_ERROR);
            }
            accept();
            int station = readStationName(NOT_FOUND);
            int first = readNumber(0, LAST_FRAME);
            int last = readNumber(first, LAST_FRAME);
            int fading = readNumber(1, MAX_FADE);
            readSemicolon();
            if (error == 0) {
                result.addRain(station, first, last, fading);
            }
        }

        private void readCall() {
            if (result.callTotal >= MAX_CALLS) {
                fail(COUNT_ERROR);
            }
            accept();
            int sender = readStationName(NOT_FOUND);
            int receiver = readStationName(sender);
            int priority = readNumber(0, MAX_PRIORITY);
            int symbols = readNumber(1, MAX_SYMBOLS);
            int hold = readNumber(1, MAX_HOLD);
            readSemicolon();
            if (error == 0) {
                result.addCall(sender, receiver, priority, symbols, hold);
            }
        }

        private void readSet() {
            accept();
            int setting = settingHere();
            if (setting == NOT_FOUND) {
                fail(SYNTAX_ERROR);
                return;
            }
            if ((settingsGiven >> setting & 1) != 0) {
                fail(DUPLICATE_ERROR);
            } else if (setting < LEVEL && result.callTotal > 0) {
                fail(ORDER_ERROR);
            }
            accept();
            int value = readNumber(LEAST_SETTING[setting], GREATEST_SETTING[setting]);
            readSemicolon();
            if (error == 0) {
                settingsGiven |= 1 << setting;
                result.settings[setting] = value;
            }
        }

        /** Goes on to the next token, unless there was an error. */
        private void accept() {
            if (error == 0) {
                tokens.step();
            }
        }

        /** Reports an error at the present token, unless there was one before. */
        private void fail(int code) {
            if (error == 0) {
                error = code;
                errorPlace = tokens.start;
            }
        }

        private void readSemicolon() {
            if (tokens.kind != Tokens.SEMICOLON) {
                fail(SYNTAX_ERROR);
            }
            accept();
        }

        private int readNumber(int least, int greatest) {
            if (tokens.kind != Tokens.INTEGER) {
                fail(SYNTAX_ERROR);
            } else if (!inRange(tokens.value, least, greatest)) {
                fail(RANGE_ERROR);
            }
            int number = tokens.value;
            accept();
            return number;
        }

        private int readNewName() {
            int name = readName();
            if (result.stationWithName(name) != NOT_FOUND) {
                fail(DUPLICATE_ERROR);
            }
            accept();
            return name;
        }

        /** Reads the name of a declared station other than the given one. */
        private int readStationName(int other) {
            int station = result.stationWithName(readName());
            if (station == NOT_FOUND || station == other) {
                fail(NAME_ERROR);
            }
            accept();
            return station;
        }

        /** The name at the present token, which stays the present one; 0, no station's name, if there is none. */
        private int readName() {
            if (!tokens.isShortWord() || tokens.isWord("rain") || tokens.isWord("call") || tokens.isWord("set")
                    || settingHere() != NOT_FOUND) {
                fail(SYNTAX_ERROR);
                return 0;
            }
            return tokens.packedLetters();
        }

        /** The setting that the present token names; NOT_FOUND if it names none. */
        private int settingHere() {
            for (int setting = 0; setting < SETTINGS; setting++) {
                if (tokens.isWord(settingWord(setting))) {
                    return setting;
                }
            }
            return NOT_FOUND;
        }

        private static String settingWord(int setting) {
            switch (setting) {
                case LENGTH:
                    return "length";
                case GUARD:
                    return "guard";
                case REFERENCE:
                    return "reference";
                case PREAMBLE:
                    return "preamble";
                case LEVEL:
                    return "level";
                case STEP:
                    return "step";
                default:
                    return "gain";
            }
        }
    }
}
