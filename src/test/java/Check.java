import java.nio.charset.StandardCharsets;

/** What the tests share: they tell each answer that is not the one that is due, and end with 1 if there was one. */
final class Check {
    /** A call that may throw. */
    interface Answer {
        long get();
    }

    private static int wrong = 0;
    private static int checked = 0;

    private Check() {
    }

    static void due(String what, long want, long got) {
        checked++;
        if (got != want) {
            wrong++;
            System.out.println(what + " answered " + got + ", due is " + want);
        }
    }

    static void due(String what, boolean want, boolean got) {
        due(what, want ? 1 : 0, got ? 1 : 0);
    }

    static void that(String what, boolean holds) {
        checked++;
        if (!holds) {
            wrong++;
            System.out.println(what + " does not hold");
        }
    }

    /** The call throws IndexOutOfBoundsException itself, not one of the machine's kinds of it. */
    static void outOfBounds(String what, Answer call) {
        checked++;
        String seen;
        try {
            seen = "answered " + call.get();
        } catch (RuntimeException e) {
            if (e.getClass() == IndexOutOfBoundsException.class) {
                return;
            }
            seen = "threw " + e;
        }
        wrong++;
        System.out.println(what + " " + seen + ", due is an IndexOutOfBoundsException");
    }

    /** Feeds a text, filled up with spaces. */
    static void feed(SatelliteExchange x, String text) {
        byte[] bytes = text.getBytes(StandardCharsets.ISO_8859_1);
        for (int i = 0; i < bytes.length; i += 20) {
            int[] words = new int[5];
            for (int k = 0; k < 20; k++) {
                int sign = i + k < bytes.length ? bytes[i + k] & 255 : ' ';
                words[k / 4] = words[k / 4] << 8 | sign;
            }
            x.feed(words[0], words[1], words[2], words[3], words[4]);
        }
    }

    /** Feeds a text and loads it, to its last character. */
    static int load(SatelliteExchange x, String text) {
        feed(x, text);
        return x.load(text.length());
    }

    /** A new exchange with a text loaded, which must have no error. */
    static SatelliteExchange loaded(String text) {
        SatelliteExchange x = new SatelliteExchange();
        int statements = load(x, text);
        if (statements < 0) {
            wrong++;
            System.out.println("the text '" + text + "' was refused with " + statements + " at " + x.errorPosition());
        }
        return x;
    }

    /** All that an exchange shows of itself, but for its buffer: two exchanges with the same picture are alike. */
    static String picture(SatelliteExchange x) {
        StringBuilder p = new StringBuilder();
        add(p, x.now(), x.stationCount(), x.callCount(), x.carrierCount(), x.queueLength(), x.nextEnd(),
                x.busiestStation(), x.degradedNow(), x.carriersNeeded(), x.undoCount(), x.errorPosition());
        for (int i = 0; i < 7; i++) {
            add(p, x.getSetting(i));
        }
        for (int i = 0; i < x.stationCount(); i++) {
            add(p, x.power(i), x.timingError(i), x.roundTrip(i), x.timingFaults(i), x.loadOf(i),
                    x.errorAfter(i, 60), x.errorAfter(i, 30), x.framesInTime(i));
            for (int f = 0; f < 30; f++) {
                add(p, x.fade(i, f), x.powerAfter(i, f));
            }
        }
        for (int i = 0; i < x.callCount(); i++) {
            add(p, x.stateOf(i), x.senderOf(i), x.receiverOf(i), x.priorityOf(i), x.carrierOf(i), x.startOf(i),
                    x.burstOf(i), x.endOf(i), x.waitOf(i), x.marginOf(i), x.degradedFrames(i), x.queuedAt(i));
        }
        return p.toString();
    }

    private static void add(StringBuilder p, int... values) {
        for (int value : values) {
            p.append(value).append(' ');
        }
    }

    static void unchanged(String what, String before, SatelliteExchange x) {
        checked++;
        String after = picture(x);
        if (!after.equals(before)) {
            wrong++;
            System.out.println(what + " changed " + before + "\n  to " + after);
        }
    }

    static void end() {
        System.out.println(checked + " checks, " + wrong + " wrong");
        if (wrong != 0) {
            System.exit(1);
        }
    }
}
