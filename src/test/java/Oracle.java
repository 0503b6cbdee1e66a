import java.util.ArrayList;
import java.util.Comparator;
import java.util.List;
import java.util.regex.Matcher;
import java.util.regex.Pattern;

/**
 * The document told a second time, as literally and as slowly as it reads: every start of a frame is tried, every
 * set of calls, and all timing errors since frame 0 are kept. FuzzTest compares the program with it.
 */
public final class Oracle {
    static final int NOT_FOUND = -1, BAD_VALUE = -2, FULL = -3;
    static final int SYNTAX = -11, RANGE = -12, NAME = -13, DUPLICATE = -14, ORDER = -15, COUNT = -16;
    static final int WAITING = 0, ACTIVE = 1, ENDED = 2;
    static final int[][] RANGES = {{200, 5000}, {0, 200}, {1, 500}, {1, 200}, {0, 999}, {1, 100}, {1, 100}};
    static final List<String> SETTINGS =
            List.of("length", "guard", "reference", "preamble", "level", "step", "gain");

    static final class Station {
        String name;
        int delay;
        int drift;
        int nominal;
        int greatest;
        int power;
        int faults;
        List<Integer> errors = new ArrayList<>(List.of(0));

        Station copy() {
            Station s = new Station();
            s.name = name;
            s.delay = delay;
            s.drift = drift;
            s.nominal = nominal;
            s.greatest = greatest;
            s.power = power;
            s.faults = faults;
            s.errors = new ArrayList<>(errors);
            return s;
        }
    }

    static final class Call {
        int index;
        int sender;
        int receiver;
        int priority;
        int symbols;
        int hold;
        int state;
        int carrier;
        int start;
        int requested;
        Integer begun;
        int degraded;

        Call copy() {
            Call c = new Call();
            c.index = index;
            c.sender = sender;
            c.receiver = receiver;
            c.priority = priority;
            c.symbols = symbols;
            c.hold = hold;
            c.state = state;
            c.carrier = carrier;
            c.start = start;
            c.requested = requested;
            c.begun = begun;
            c.degraded = degraded;
            return c;
        }
    }

    record Rain(int station, int first, int last, int fade) {
    }

    static final class World {
        int[] set = {1000, 10, 50, 20, 300, 20, 50};
        int carriers = 1;
        int frame = 0;
        List<Station> stations = new ArrayList<>();
        List<Rain> rains = new ArrayList<>();
        List<Call> calls = new ArrayList<>();

        World copy() {
            World w = new World();
            w.set = set.clone();
            w.carriers = carriers;
            w.frame = frame;
            stations.forEach(s -> w.stations.add(s.copy()));
            w.rains.addAll(rains);
            calls.forEach(c -> w.calls.add(c.copy()));
            return w;
        }

        int burst(Call c) {
            return set[3] + c.symbols;
        }

        int fade(int station, int f) {
            return rains.stream().filter(r -> r.station == station && r.first <= f && f <= r.last)
                    .mapToInt(Rain::fade).sum();
        }

        int trip(Station s) {
            int frames = 0;
            while (frames * set[0] < 2 * s.delay) {
                frames++;
            }
            return frames;
        }

        List<Call> in(int state) {
            return calls.stream().filter(c -> c.state == state).toList();
        }

        List<Call> ordered(List<Call> some) {
            List<Call> sorted = new ArrayList<>(some);
            sorted.sort(Comparator.comparingInt((Call c) -> -c.priority).thenComparingInt(c -> c.index));
            return sorted;
        }

        /** Whether a burst keeps the rules: all symbols of it are looked at, one by one. */
        boolean allowed(Call c, int carrier, int start, List<Call> others) {
            if (start < set[2] + set[1] || start + burst(c) + set[1] > set[0]) {
                return false;
            }
            for (Call o : others) {
                if (o == c || o.carrier != carrier && o.sender != c.sender && o.receiver != c.receiver) {
                    continue;
                }
                int first = Math.min(start, o.start);
                Call leading = start <= o.start ? c : o;
                int following = Math.max(start, o.start);
                if (following - (first + burst(leading)) < set[1]) {
                    return false;
                }
            }
            return true;
        }

        int least(Call c, int carrier, List<Call> others) {
            for (int s = 0; s < set[0]; s++) {
                if (allowed(c, carrier, s, others)) {
                    return s;
                }
            }
            return NOT_FOUND;
        }

        boolean assign(Call c) {
            int best = Integer.MAX_VALUE;
            for (int k = 0; k < carriers; k++) {
                int s = least(c, k, in(ACTIVE));
                if (s >= 0 && s < best) {
                    best = s;
                    c.carrier = k;
                }
            }
            if (best == Integer.MAX_VALUE) {
                return false;
            }
            c.start = best;
            c.state = ACTIVE;
            return true;
        }

        int serve() {
            int became = 0;
            for (Call c : ordered(in(WAITING))) {
                if (assign(c)) {
                    c.begun = frame;
                    became++;
                }
            }
            return became;
        }

        boolean anew(List<Call> some) {
            some.forEach(c -> c.state = WAITING);
            boolean all = true;
            for (Call c : ordered(some)) {
                all = assign(c) && all;
            }
            return all;
        }

        int request(int sender, int receiver, int priority, int symbols, int hold) {
            Call c = new Call();
            c.index = calls.size();
            c.sender = sender;
            c.receiver = receiver;
            c.priority = priority;
            c.symbols = symbols;
            c.hold = hold;
            c.requested = frame;
            calls.add(c);
            if (assign(c)) {
                c.begun = frame;
            }
            return c.index;
        }

        int margin(Call c) {
            return stations.get(c.sender).power - fade(c.sender, frame) - fade(c.receiver, frame) - set[4];
        }

        boolean outOfTime(Station s) {
            return Math.abs(s.errors.get(frame)) * 2 > set[1];
        }

        void pass() {
            frame++;
            for (int i = 0; i < stations.size(); i++) {
                Station s = stations.get(i);
                int back = frame - 1 - trip(s);
                int c = back < 0 ? 0 : s.errors.get(back) * set[6] / 100;
                int e = s.errors.get(frame - 1) + s.drift - c;
                s.errors.add(e > 100000 ? 100000 : e < -100000 ? -100000 : e);
                int aim = s.nominal + fade(i, frame);
                if (aim > s.greatest) {
                    aim = s.greatest;
                }
                if (Math.abs(aim - s.power) <= set[5]) {
                    s.power = aim;
                } else {
                    s.power += aim > s.power ? set[5] : -set[5];
                }
            }
            List<Call> before = in(ACTIVE);
            for (Call c : before) {
                if (c.begun + c.hold <= frame) {
                    c.state = ENDED;
                }
            }
            serve();
            List<Station> counted = new ArrayList<>();
            for (Call c : before) {
                if (c.state != ACTIVE) {
                    continue;
                }
                if (margin(c) < 0) {
                    c.degraded++;
                }
                Station s = stations.get(c.sender);
                if (outOfTime(s) && !counted.contains(s)) {
                    counted.add(s);
                    s.faults++;
                }
            }
        }
    }

    private World w = new World();
    private final List<World> past = new ArrayList<>();
    private String buffer = "";
    private int errorAt = NOT_FOUND;

    private void change() {
        past.add(w.copy());
        if (past.size() > 10) {
            past.remove(0);
        }
    }

    private Station station(int i) {
        if (i < 0 || i >= w.stations.size()) {
            throw new IndexOutOfBoundsException();
        }
        return w.stations.get(i);
    }

    private Call call(int i) {
        if (i < 0 || i >= w.calls.size()) {
            throw new IndexOutOfBoundsException();
        }
        return w.calls.get(i);
    }

    private void carrier(int i) {
        if (i < 0 || i >= w.carriers) {
            throw new IndexOutOfBoundsException();
        }
    }

    private static int bits(List<Call> some) {
        return some.stream().mapToInt(c -> 1 << c.index).sum();
    }

    // TEXT FORMAT

    private static final class Wrong extends Exception {
        private static final long serialVersionUID = 1L;
        final int code;
        final int at;

        Wrong(int code, int at) {
            this.code = code;
            this.at = at;
        }
    }

    private static final class Text {
        final List<String> tokens = new ArrayList<>();
        final List<Integer> places = new ArrayList<>();
        int i = 0;

        Text(String text) {
            Matcher m = Pattern.compile("[a-z]+|[0-9]+|[^ \\n]", Pattern.DOTALL).matcher(text);
            while (m.find()) {
                tokens.add(m.group());
                places.add(m.start());
            }
            tokens.add("");
            places.add(text.length());
        }

        String here() {
            return tokens.get(i);
        }

        Wrong wrong(int code) {
            return new Wrong(code, places.get(i));
        }

        void exactly(String token) throws Wrong {
            if (!here().equals(token)) {
                throw wrong(SYNTAX);
            }
            i++;
        }

        int number(int least, int greatest) throws Wrong {
            if (!here().matches("[0-9]+")) {
                throw wrong(SYNTAX);
            }
            java.math.BigInteger n = new java.math.BigInteger(here());
            if (n.compareTo(java.math.BigInteger.valueOf(least)) < 0
                    || n.compareTo(java.math.BigInteger.valueOf(greatest)) > 0) {
                throw wrong(RANGE);
            }
            i++;
            return n.intValue();
        }

        String name() throws Wrong {
            if (!here().matches("[a-z]{1,6}")
                    || List.of("rain", "call", "set", "level", "step", "gain", "length", "guard").contains(here())) {
                throw wrong(SYNTAX);
            }
            return here();
        }
    }

    private static int known(World v, String name) {
        for (int i = 0; i < v.stations.size(); i++) {
            if (v.stations.get(i).name.equals(name)) {
                return i;
            }
        }
        return NOT_FOUND;
    }

    private static int declared(World v, Text t, int other) throws Wrong {
        int station = known(v, t.name());
        if (station < 0 || station == other) {
            throw t.wrong(NAME);
        }
        t.i++;
        return station;
    }

    private static int parse(World v, Text t) throws Wrong {
        int statements = 0;
        boolean carriersGiven = false;
        List<Integer> given = new ArrayList<>();
        while (!t.here().isEmpty()) {
            switch (t.here()) {
                case "carriers" -> {
                    if (carriersGiven) {
                        throw t.wrong(DUPLICATE);
                    }
                    if (!v.calls.isEmpty()) {
                        throw t.wrong(ORDER);
                    }
                    t.i++;
                    carriersGiven = true;
                    v.carriers = t.number(1, 4);
                }
                case "station" -> {
                    if (v.stations.size() == 6) {
                        throw t.wrong(COUNT);
                    }
                    t.i++;
                    Station s = new Station();
                    s.name = t.name();
                    if (known(v, s.name) >= 0) {
                        throw t.wrong(DUPLICATE);
                    }
                    t.i++;
                    s.delay = t.number(0, 5000);
                    boolean minus = t.here().equals("-");
                    if (minus) {
                        t.i++;
                    }
                    s.drift = t.number(0, 50);
                    if (minus) {
                        s.drift = -s.drift;
                    }
                    s.nominal = t.number(0, 999);
                    s.power = s.nominal;
                    s.greatest = t.number(s.nominal, 999);
                    v.stations.add(s);
                }
                case "rain" -> {
                    if (v.rains.size() == 8) {
                        throw t.wrong(COUNT);
                    }
                    t.i++;
                    int station = declared(v, t, NOT_FOUND);
                    int first = t.number(0, 9999);
                    int last = t.number(first, 9999);
                    v.rains.add(new Rain(station, first, last, t.number(1, 400)));
                }
                case "call" -> {
                    if (v.calls.size() == 16) {
                        throw t.wrong(COUNT);
                    }
                    t.i++;
                    int sender = declared(v, t, NOT_FOUND);
                    int receiver = declared(v, t, sender);
                    int priority = t.number(0, 9);
                    int symbols = t.number(1, 2000);
                    int hold = t.number(1, 9999);
                    v.request(sender, receiver, priority, symbols, hold);
                }
                case "set" -> {
                    t.i++;
                    int setting = SETTINGS.indexOf(t.here());
                    if (setting < 0) {
                        throw t.wrong(SYNTAX);
                    }
                    if (given.contains(setting)) {
                        throw t.wrong(DUPLICATE);
                    }
                    if (setting < 4 && !v.calls.isEmpty()) {
                        throw t.wrong(ORDER);
                    }
                    t.i++;
                    given.add(setting);
                    v.set[setting] = t.number(RANGES[setting][0], RANGES[setting][1]);
                }
                default -> throw t.wrong(SYNTAX);
            }
            t.exactly(";");
            statements++;
        }
        return statements;
    }

    // The face

    public int feed(int a, int b, int c, int d, int e) {
        if (buffer.length() + 20 > 1000) {
            return FULL;
        }
        StringBuilder more = new StringBuilder(buffer);
        for (int word : new int[] {a, b, c, d, e}) {
            for (int shift = 24; shift >= 0; shift -= 8) {
                more.append((char) (word >>> shift & 255));
            }
        }
        buffer = more.toString();
        return buffer.length();
    }

    public int load(int length) {
        if (length < 0 || length > buffer.length()) {
            return BAD_VALUE;
        }
        Text text = new Text(buffer.substring(0, length));
        buffer = "";
        World v = new World();
        try {
            int statements = parse(v, text);
            w = v;
            past.clear();
            errorAt = NOT_FOUND;
            return statements;
        } catch (Wrong wrong) {
            errorAt = wrong.at;
            return wrong.code;
        }
    }

    public int errorPosition() {
        return errorAt;
    }

    public int stationCount() {
        return w.stations.size();
    }

    public int callCount() {
        return w.calls.size();
    }

    public int carrierCount() {
        return w.carriers;
    }

    public int undoCount() {
        return past.size();
    }

    public int stationNamed(int letters) {
        StringBuilder name = new StringBuilder();
        for (int shift = 25; shift >= 0; shift -= 5) {
            int letter = letters >> shift & 31;
            if (letter != 0) {
                name.append((char) ('a' + letter - 1));
            }
        }
        int packed = 0;
        for (int i = 0; i < 6; i++) {
            packed = packed * 32 + (i < name.length() ? name.charAt(i) - 'a' + 1 : 0);
        }
        return packed == letters ? known(w, name.toString()) : NOT_FOUND;
    }

    public int now() {
        return w.frame;
    }

    public int getSetting(int setting) {
        return setting < 0 || setting > 6 ? BAD_VALUE : w.set[setting];
    }

    public int fade(int station, int frame) {
        station(station);
        return frame < 0 || frame > 9999 ? BAD_VALUE : w.fade(station, frame);
    }

    public int power(int station) {
        return station(station).power;
    }

    public int timingError(int station) {
        return station(station).errors.get(w.frame);
    }

    public int roundTrip(int station) {
        return w.trip(station(station));
    }

    public int timingFaults(int station) {
        return station(station).faults;
    }

    public int stateOf(int call) {
        return call(call).state;
    }

    public int senderOf(int call) {
        return call(call).sender;
    }

    public int receiverOf(int call) {
        return call(call).receiver;
    }

    public int carrierOf(int call) {
        return call(call).state == ACTIVE ? call(call).carrier : NOT_FOUND;
    }

    public int startOf(int call) {
        return call(call).state == ACTIVE ? call(call).start : NOT_FOUND;
    }

    public int burstOf(int call) {
        return w.burst(call(call));
    }

    public int sendOffset(int call) {
        if (call(call).state != ACTIVE) {
            return NOT_FOUND;
        }
        int offset = call(call).start - station(call(call).sender).delay;
        while (offset < 0) {
            offset += w.set[0];
        }
        return offset % w.set[0];
    }

    public int endOf(int call) {
        return call(call).state == ACTIVE ? call(call).begun + call(call).hold : NOT_FOUND;
    }

    public int waitOf(int call) {
        Call c = call(call);
        if (c.state == WAITING) {
            return w.frame - c.requested;
        }
        return c.begun == null ? NOT_FOUND : c.begun - c.requested;
    }

    public int marginOf(int call) {
        return w.margin(call(call));
    }

    public int degradedFrames(int call) {
        return call(call).degraded;
    }

    public int queuedAt(int position) {
        List<Call> queue = w.ordered(w.in(WAITING));
        return position < 0 || position >= queue.size() ? NOT_FOUND : queue.get(position).index;
    }

    public int queueLength() {
        return w.in(WAITING).size();
    }

    private List<Call> on(int carrier) {
        carrier(carrier);
        return w.in(ACTIVE).stream().filter(c -> c.carrier == carrier)
                .sorted(Comparator.comparingInt(c -> c.start)).toList();
    }

    public int callsOn(int carrier) {
        return on(carrier).size();
    }

    public int usedSymbols(int carrier) {
        return on(carrier).stream().mapToInt(w::burst).sum();
    }

    public int callAt(int carrier, int place) {
        List<Call> row = on(carrier);
        return place < 0 || place >= row.size() ? NOT_FOUND : row.get(place).index;
    }

    public int longestFit(int carrier) {
        List<Call> row = on(carrier);
        int longest = 0;
        int from = w.set[2] + w.set[1];
        for (Call c : row) {
            longest = Math.max(longest, c.start - w.set[1] - from);
            from = c.start + w.burst(c) + w.set[1];
        }
        return Math.max(longest, w.set[0] - w.set[1] - from);
    }

    public int nextEnd() {
        return w.in(ACTIVE).stream().mapToInt(c -> c.begun + c.hold).min().orElse(NOT_FOUND);
    }

    private boolean fits(Call c, int without) {
        List<Call> left = w.in(ACTIVE).stream().filter(o -> (without >>> o.index & 1) == 0).toList();
        for (int k = 0; k < w.carriers; k++) {
            if (w.least(c, k, left) >= 0) {
                return true;
            }
        }
        return false;
    }

    public boolean fitsWithout(int call, int calls) {
        return call(call).state == WAITING && fits(call(call), calls);
    }

    public int callsToDrop(int call) {
        Call c = call(call);
        if (c.state != WAITING) {
            return NOT_FOUND;
        }
        int lower = bits(w.in(ACTIVE).stream().filter(o -> o.priority < c.priority).toList());
        int best = NOT_FOUND;
        for (int set = 0; set < 1 << 16; set++) {
            if ((set & ~lower) == 0 && (best < 0 || Integer.bitCount(set) < Integer.bitCount(best)) && fits(c, set)) {
                best = set;
            }
        }
        return best;
    }

    public int carriersNeeded() {
        for (int n = 1; n <= 4; n++) {
            World v = w.copy();
            v.carriers = n;
            if (v.anew(v.calls.stream().filter(c -> c.state != ENDED).toList())) {
                return n;
            }
        }
        return NOT_FOUND;
    }

    public int clearFrame(int call) {
        call(call);
        World v = w.copy();
        for (int i = 0; i <= 200 && v.frame <= 9999; i++) {
            if (v.margin(v.calls.get(call)) >= 0) {
                return v.frame;
            }
            v.pass();
        }
        return NOT_FOUND;
    }

    public int request(int sender, int receiver, int priority, int symbols, int hold) {
        int n = w.stations.size();
        if (sender < 0 || sender >= n || receiver < 0 || receiver >= n || sender == receiver) {
            return NOT_FOUND;
        }
        if (priority < 0 || priority > 9 || symbols < 1 || symbols > 2000 || hold < 1 || hold > 9999) {
            return BAD_VALUE;
        }
        if (w.calls.size() == 16) {
            return FULL;
        }
        change();
        return w.request(sender, receiver, priority, symbols, hold);
    }

    public int release(int call) {
        if (call < 0 || call >= w.calls.size() || w.calls.get(call).state == ENDED) {
            return NOT_FOUND;
        }
        change();
        w.calls.get(call).state = ENDED;
        return w.serve();
    }

    public int advance(int frames) {
        if (frames < 1 || frames > 200) {
            return BAD_VALUE;
        }
        if (w.frame + frames > 9999) {
            return FULL;
        }
        change();
        for (int i = 0; i < frames; i++) {
            w.pass();
        }
        return w.frame;
    }

    public int setSetting(int setting, int value) {
        if (setting < 4 || setting > 6 || value < RANGES[setting][0] || value > RANGES[setting][1]) {
            return BAD_VALUE;
        }
        change();
        int old = w.set[setting];
        w.set[setting] = value;
        return old;
    }

    public boolean acquire(int station) {
        if (station < 0 || station >= w.stations.size()) {
            return false;
        }
        change();
        w.stations.get(station).errors.replaceAll(e -> 0);
        return true;
    }

    public int compact() {
        World v = w.copy();
        List<Call> active = v.in(ACTIVE);
        if (!v.anew(active)) {
            return FULL;
        }
        v.serve();
        int moved = 0;
        for (Call c : active) {
            Call old = w.calls.get(c.index);
            if (old.carrier != c.carrier || old.start != c.start) {
                moved++;
            }
        }
        change();
        w = v;
        return moved;
    }

    public int undo() {
        if (past.isEmpty()) {
            return NOT_FOUND;
        }
        w = past.remove(past.size() - 1);
        return past.size();
    }

    public int callOver(int carrier, int symbol) {
        for (Call c : on(carrier)) {
            for (int s = c.start; s < c.start + w.burst(c); s++) {
                if (s == symbol) {
                    return c.index;
                }
            }
        }
        return NOT_FOUND;
    }

    public int earliestStart(int call, int carrier) {
        Call c = call(call);
        carrier(carrier);
        return c.state == WAITING ? w.least(c, carrier, w.in(ACTIVE)) : NOT_FOUND;
    }

    public int conflicts(int call) {
        Call c = call(call);
        if (c.state != ACTIVE) {
            return 0;
        }
        return bits(w.in(ACTIVE).stream().filter(o -> o != c
                && (o.carrier == c.carrier || o.sender == c.sender || o.receiver == c.receiver)).toList());
    }

    public int busiestStation() {
        int[] count = new int[6];
        for (Call c : w.in(ACTIVE)) {
            count[c.sender]++;
            count[c.receiver]++;
        }
        int best = NOT_FOUND;
        for (int s = 5; s >= 0; s--) {
            if (count[s] > 0 && (best < 0 || count[s] >= count[best])) {
                best = s;
            }
        }
        return best;
    }

    public int loadOf(int station) {
        station(station);
        return w.in(ACTIVE).stream().filter(c -> c.sender == station).mapToInt(w::burst).sum();
    }

    private World later(int frames) {
        World v = w.copy();
        for (int i = 0; i < frames; i++) {
            v.pass();
        }
        return v;
    }

    public int errorAfter(int station, int frames) {
        station(station);
        if (frames < 0 || frames > 200) {
            return Integer.MIN_VALUE;
        }
        return later(frames).stations.get(station).errors.get(w.frame + frames);
    }

    public int powerAfter(int station, int frames) {
        station(station);
        if (frames < 0 || frames > 200) {
            return BAD_VALUE;
        }
        return w.frame + frames > 9999 ? NOT_FOUND : later(frames).stations.get(station).power;
    }

    public int framesInTime(int station) {
        station(station);
        World v = w.copy();
        for (int i = 0; i <= 200; i++) {
            if (v.outOfTime(v.stations.get(station))) {
                return i;
            }
            v.pass();
        }
        return NOT_FOUND;
    }

    public int degradedNow() {
        return bits(w.in(ACTIVE).stream().filter(c -> w.margin(c) < 0).toList());
    }

    public int framesToWait(int call) {
        if (call(call).state != WAITING) {
            return NOT_FOUND;
        }
        World v = w.copy();
        for (int i = 1; i <= 200 && v.frame < 9999; i++) {
            v.pass();
            if (v.calls.get(call).state == ACTIVE) {
                return i;
            }
        }
        return NOT_FOUND;
    }

    public int priorityOf(int call) {
        return call(call).priority;
    }
}
