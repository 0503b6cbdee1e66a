import java.nio.charset.StandardCharsets;

/** What the tests share: they tell each answer that is not the one that is due, and end with 1 if there was one. */
final class Check {
    /** A call that may throw. */
    interface Answer {
        long get();
    }

    private static int wrong = 0;
    private static int checked = 0;

    private Check() {
    }

    static void due(String what, long want, long got) {
        checked++;
        if (got != want) {
            wrong++;
            System.out.println(what + " answered " + got + ", due is " + want);
        }
    }

    static void due(String what, boolean want, boolean got) {
        due(what, want ? 1 : 0, got ? 1 : 0);
    }

    static void that(String what, boolean holds) {
        checked++;
        if (!holds) {
            wrong++;
            System.out.println(what + " does not hold");
        }
    }

    /** The call throws IndexOutOfBoundsException itself, not one of the machine's kinds of it. */
    static void outOfBounds(String what, Answer call) {
        checked++;
        String seen;
        try {
            seen = "answered " + call.get();
        } catch (RuntimeException e) {
            if (e.getClass() == IndexOutOfBoundsException.class) {
                return;
            }
            seen = "threw " + e;
        }
        wrong++;
        System.out.println(what + " " + seen + ", due is an IndexOutOfBoundsException");
    }

    /** Feeds a text, filled up with spaces. */
    static void feed(SatelliteExchange x, String text) {
        byte[] bytes = text.getBytes(StandardCharsets.ISO_8859_1);
        for (int i = 0; i < bytes.length; i += 20) {
            int[] words = new int[5];
            for (int k = 0; k < 20; k++) {
                int sign = i + k < bytes.length ? bytes[i + k] & 255 : ' ';
                words[k / 4] = words[k / 4] << 8 | sign;
            }
            x.feed(words[0], words[1], words[2], words[3], words[4]);
        }
    }

    /** Feeds a text and loads it, to its last character. */
    static int load(SatelliteExchange x, String text) {
        feed(x, text);
        return x.load(text.length());
    }

    /** A new exchange with a text loaded, which must have no error. */
    static SatelliteExchange loaded(String text) {
        SatelliteExchange x = new SatelliteExchange();
        int statements = load(x, text);
        if (statements < 0) {
            wrong++;
            System.out.println("the text '" + text + "' was refused with " + statements + " at " + x.errorPosition());
        }
        return x;
    }

    /** All that an exchange shows of itself, but for its buffer: two exchanges with the same picture are alike. */
    static String picture(SatelliteExchange x) {
        StringBuilder p = new StringBuilder();
        add(p, x.now(), x.stationCount(), x.callCount(), x.carrierCount(), x.queueLength(), x.nextEnd(),
                x.busiestStation(), x.degradedNow(), x.carriersNeeded(), x.undoCount(), x.errorPosition());
        for (int i = 0; i < 7; i++) {
            add(p, x.getSetting(i));
        }
        for (int i = 0; i < x.stationCount(); i++) {
            add(p, x.power(i), x.timingError(i), x.roundTrip(i), x.timingFaults(i), x.loadOf(i),
                    x.errorAfter(i, 60), x.errorAfter(i, 30), x.framesInTime(i));
            for (int f : new int[] {0, 1, 2, 3, 5, 9}) {
                add(p, x.fade(i, f), x.powerAfter(i, f));
            }
        }
        for (int i = 0; i < x.callCount(); i++) {
            add(p, x.stateOf(i), x.senderOf(i), x.receiverOf(i), x.priorityOf(i), x.carrierOf(i), x.startOf(i),
                    x.burstOf(i), x.endOf(i), x.waitOf(i), x.marginOf(i), x.degradedFrames(i), x.queuedAt(i));
        }
        return p.toString();
    }

    private static void add(StringBuilder p, int... values) {
        for (int value : values) {
            p.append(value).append(' ');
        }
    }

    /**
     * Both exchanges are alike in all that they show, in all that undo gives back, and in what their buffers hold.
     * They are used up by it. The position of the latest error is not looked at.
     */
    static void alike(String what, SatelliteExchange x, SatelliteExchange y) {
        String shown = what + " shows";
        checked++;
        String due = withoutErrorPosition(picture(y));
        String got = withoutErrorPosition(picture(x));
        if (!got.equals(due)) {
            wrong++;
            System.out.println(shown + " " + got + "\n  due is " + due);
        }
        for (int left = y.undoCount(); left > 0; left--) {
            due(what + ": undo", left - 1, x.undo());
            y.undo();
            that(what + ": what undo gives back with " + (left - 1) + " left", sketch(x).equals(sketch(y)));
        }
        due(what + ": undo of nothing", -1, x.undo());
        bufferAlike(what, x, y);
    }

    private static void bufferAlike(String what, SatelliteExchange x, SatelliteExchange y) {
        int fed = y.feed(0x20202020, 0x20202020, 0x20202020, 0x20202020, 0x20202020);
        due(what + ": bytes in the buffer", fed, x.feed(0x20202020, 0x20202020, 0x20202020, 0x20202020, 0x20202020));
        int length = fed < 0 ? 1000 : fed;
        due(what + ": load of the buffer", y.load(length), x.load(length));
        due(what + ": errorPosition of the buffer", y.errorPosition(), x.errorPosition());
        that(what + ": what the buffer describes", sketch(x).equals(sketch(y)));
    }

    private static String withoutErrorPosition(String picture) {
        String[] values = picture.split(" ");
        values[10] = "";
        return String.join(" ", values);
    }

    /** The little of an exchange that each change changes. */
    private static String sketch(SatelliteExchange x) {
        StringBuilder p = new StringBuilder();
        add(p, x.now(), x.undoCount(), x.carrierCount(), x.getSetting(4), x.getSetting(5), x.getSetting(6));
        for (int i = 0; i < x.stationCount(); i++) {
            add(p, x.power(i), x.timingFaults(i), x.errorAfter(i, 3));
        }
        for (int i = 0; i < x.callCount(); i++) {
            add(p, x.stateOf(i), x.carrierOf(i), x.startOf(i), x.endOf(i), x.waitOf(i), x.degradedFrames(i));
        }
        return p.toString();
    }

    /** Lets frames pass until a frame is the present one. */
    static void advanceTo(SatelliteExchange x, int frame) {
        while (x.now() < frame && x.advance(Math.min(200, frame - x.now())) >= 0) {
            continue;
        }
        due("the frame to advance to", frame, x.now());
    }

    static void unchanged(String what, String before, SatelliteExchange x) {
        checked++;
        String after = picture(x);
        if (!after.equals(before)) {
            wrong++;
            System.out.println(what + " changed " + before + "\n  to " + after);
        }
    }

    static void end() {
        System.out.println(checked + " checks, " + wrong + " wrong");
        if (wrong != 0) {
            System.exit(1);
        }
    }
}
