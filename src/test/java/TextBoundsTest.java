/** Promises 1 to 9 and 11, and TEXT FORMAT: the sentences that name a bound, each with a test of its own. */
public final class TextBoundsTest {
    private static final int NOT_FOUND = -1, BAD_VALUE = -2, FULL = -3;
    private static final int SYNTAX = -11, RANGE = -12, NAME = -13, DUPLICATE = -14, ORDER = -15, COUNT = -16;
    private static final int BLANK = 0x20202020;
    private static final String TWO = "station a 0 0 0 0;station b 0 0 0 0;";
    private static final String CALL = "call a b 0 1 1;";
    /** All that a text can describe, none of it as in a new exchange. */
    private static final String FULL_TEXT = "carriers 3;set length 300;set guard 2;set reference 9;set preamble 3;"
            + "set level 310;set step 7;set gain 40;station a 400 9 300 340;station zz 0 - 8 300 310;rain a 1 6 40;"
            + "call a zz 1 200 4;call zz a 2 100 9;call a zz 3 90 5;";

    private TextBoundsTest() {
    }

    public static void main(String[] args) {
        newObject();
        feedingToTheEnd();
        placesOfTheBytes();
        lengthsToLoad();
        partsToLoad();
        badLengthsLeaveTheBuffer();
        loadingReplacesAll();
        loadingForgetsCalls();
        loadingTwice();
        nothingToUndoBehindALoad();
        failedLoadsChangeTheBufferAlone();
        placesOfErrors();
        errorAtTheEndOfTheBuffer();
        whichLoadTheErrorIsOf();
        countsOfStationsAndCalls();
        countsOfCarriers();
        namesOfStations();
        namesAtTheirBounds();
        settingsAtTheirBounds();
        Check.end();
    }

    private static void newObject() {
        SatelliteExchange x = new SatelliteExchange();
        Check.due("stations of a new object", 0, x.stationCount());
        Check.due("calls of a new object", 0, x.callCount());
        Check.due("carriers of a new object", 1, x.carrierCount());
        Check.due("frame of a new object", 0, x.now());
        Check.due("queue of a new object", 0, x.queueLength());
        Check.due("errorPosition of a new object", NOT_FOUND, x.errorPosition());
        Check.outOfBounds("station 0 of a new object", () -> x.power(0));
        Check.outOfBounds("call 0 of a new object", () -> x.stateOf(0));
        Check.due("carrier 0 of a new object", 0, x.callsOn(0));
        Check.outOfBounds("carrier 1 of a new object", () -> x.callsOn(1));
        int[] initial = {1000, 10, 50, 20, 300, 20, 50};
        for (int i = 0; i < 7; i++) {
            Check.due("setting " + i + " of a new object", initial[i], x.getSetting(i));
        }
        Check.due("changes of a new object", 0, x.undoCount());
        Check.due("undo of a new object", NOT_FOUND, x.undo());
        Check.due("load(1) of a new object", BAD_VALUE, x.load(1));
        Check.due("load(0) of a new object", 0, x.load(0));
        Check.due("the first feed", 20, x.feed(BLANK, BLANK, BLANK, BLANK, BLANK));
    }

    private static void feedingToTheEnd() {
        SatelliteExchange x = new SatelliteExchange();
        for (int i = 1; i < 50; i++) {
            Check.due("feed " + i, 20 * i, x.feed(BLANK, BLANK, BLANK, BLANK, BLANK));
        }
        Check.due("feed to 1000 bytes", 1000, x.feed(BLANK, BLANK, BLANK, BLANK, 0x20202023));
        Check.due("feed beyond 1000 bytes", FULL, x.feed(0x23232323, 0x23232323, 0x23232323, 0x23232323, 0x23232323));
        Check.due("feed beyond 1000 bytes again", FULL, x.feed(BLANK, BLANK, BLANK, BLANK, BLANK));
        Check.due("nothing was appended to 1000 bytes", BAD_VALUE, x.load(1001));
        Check.due("the full buffer, to its last byte", SYNTAX, x.load(1000));
        Check.due("the last byte of the full buffer", 999, x.errorPosition());
        Check.due("the buffer is empty then", BAD_VALUE, x.load(1));
        Check.due("and takes bytes again", 20, x.feed(BLANK, BLANK, BLANK, BLANK, BLANK));
        Check.due("of which none is an old one", 0, x.load(20));
    }

    /** A sign that is never allowed is found at each of the twenty places, and at those of the next feed. */
    private static void placesOfTheBytes() {
        SatelliteExchange x = new SatelliteExchange();
        for (int place = 0; place < 40; place++) {
            for (int from = 0; from < 40; from += 20) {
                int[] words = new int[5];
                for (int i = 0; i < 20; i++) {
                    words[i / 4] = words[i / 4] << 8 | (from + i == place ? 0x80 + place : ' ');
                }
                Check.due("feed for place " + place, from + 20, x.feed(words[0], words[1], words[2], words[3], words[4]));
            }
            Check.due("load with a sign at " + place, SYNTAX, x.load(40));
            Check.due("the place of the sign at " + place, place, x.errorPosition());
        }
    }

    private static void lengthsToLoad() {
        for (int fed : new int[] {0, 20, 980, 1000}) {
            for (int length : new int[] {-1, Integer.MIN_VALUE, fed + 1, fed + 20, Integer.MAX_VALUE}) {
                SatelliteExchange x = new SatelliteExchange();
                Check.feed(x, " ".repeat(fed));
                Check.due("load(" + length + ") of " + fed, BAD_VALUE, x.load(length));
                Check.due("then load(" + fed + ")", 0, x.load(fed));
            }
        }
    }

    /** Only the first length bytes count; the rest of the buffer is gone all the same. */
    private static void partsToLoad() {
        String text = "carriers 3;set gain 25;#                ";
        int[][] due = {{0, 0}, {1, SYNTAX}, {8, SYNTAX}, {9, SYNTAX}, {10, SYNTAX}, {11, 1}, {12, SYNTAX}, {21, SYNTAX},
            {22, SYNTAX}, {23, 2}, {24, SYNTAX}, {40, SYNTAX}};
        int[] places = {NOT_FOUND, 0, 8, 9, 10, NOT_FOUND, 11, 21, 22, NOT_FOUND, 23, 23};
        for (int i = 0; i < due.length; i++) {
            SatelliteExchange x = new SatelliteExchange();
            Check.feed(x, text);
            Check.due("load(" + due[i][0] + ") of a longer text", due[i][1], x.load(due[i][0]));
            Check.due("errorPosition of its first " + due[i][0] + " bytes", places[i], x.errorPosition());
            Check.due("carriers of its first " + due[i][0] + " bytes", due[i][1] > 0 ? 3 : 1, x.carrierCount());
            Check.due("gain of its first " + due[i][0] + " bytes", due[i][1] == 2 ? 25 : 50, x.getSetting(6));
            Check.due("its rest is gone", BAD_VALUE, x.load(1));
            Check.due("the buffer is empty", 20, x.feed(BLANK, BLANK, BLANK, BLANK, BLANK));
        }
    }

    private static void badLengthsLeaveTheBuffer() {
        SatelliteExchange x = used();
        SatelliteExchange y = used();
        Check.feed(x, "carriers 2;station q");
        Check.feed(y, "carriers 2;station q");
        for (int length : new int[] {-1, 21, 1000, 1001, Integer.MIN_VALUE, Integer.MAX_VALUE}) {
            Check.due("load(" + length + ") of 20 bytes", BAD_VALUE, x.load(length));
        }
        Check.alike("load out of range", x, y);
    }

    /** An exchange with ten kept changes and more before them. */
    private static SatelliteExchange used() {
        SatelliteExchange x = Check.loaded(FULL_TEXT);
        x.advance(1);
        x.setSetting(6, 60);
        x.advance(2);
        x.request(1, 0, 5, 30, 6);
        x.acquire(0);
        x.setSetting(4, 320);
        x.advance(1);
        x.release(1);
        x.compact();
        x.setSetting(5, 9);
        x.advance(1);
        x.request(0, 1, 7, 150, 3);
        Check.due("changes of the used exchange", 10, x.undoCount());
        return x;
    }

    private static void loadingReplacesAll() {
        SatelliteExchange x = used();
        Check.due("load of an empty text", 0, x.load(0));
        Check.alike("an empty text after another exchange", x, new SatelliteExchange());
        x = used();
        Check.due("load of a text", 14, Check.load(x, FULL_TEXT));
        Check.alike("a text after another exchange", x, Check.loaded(FULL_TEXT));
        x = used();
        String other = "station q 10 1 5 9;station a 0 0 0 0;call q a 0 500 9;call q a 0 500 2;";
        Check.due("load of a smaller text", 4, Check.load(x, other));
        x.advance(2);
        Check.due("a call of the text was requested in frame 0", 2, x.waitOf(1));
        SatelliteExchange y = Check.loaded(other);
        y.advance(2);
        Check.alike("a smaller text after another exchange, and two frames", x, y);
    }

    /** A call has nothing of one that had its index before the load. */
    private static void loadingForgetsCalls() {
        SatelliteExchange x = Check.loaded(TWO + "set level 999;");
        x.advance(5);
        x.request(0, 1, 0, 10, 9);
        x.request(0, 1, 0, 2000, 9);
        x.advance(3);
        Check.due("degradedFrames before the load", 3, x.degradedFrames(0));
        Check.load(x, TWO + "set level 1;");
        Check.due("calls behind the load", 0, x.callCount());
        Check.due("a request behind the load", 0, x.request(0, 1, 0, 10, 9));
        Check.due("degradedFrames behind the load", 0, x.degradedFrames(0));
        Check.due("endOf behind the load", 9, x.endOf(0));
        x = Check.loaded(TWO);
        x.advance(5);
        x.request(0, 1, 0, 10, 9);
        x.request(0, 1, 0, 10, 9);
        Check.load(x, TWO + "call a b 0 2000 9;" + CALL);
        x.advance(7);
        Check.due("waitOf a call of the text, which waits", 7, x.waitOf(0));
        Check.due("waitOf a call of the text, which was active", 0, x.waitOf(1));
    }

    /** What a text gave, or a text with an error, is not given already in the next one. */
    private static void loadingTwice() {
        SatelliteExchange x = new SatelliteExchange();
        Check.due("a text", 14, Check.load(x, FULL_TEXT));
        Check.due("the same text again", 14, Check.load(x, FULL_TEXT));
        Check.due("the same text with an error at its end", SYNTAX, Check.load(x, FULL_TEXT + "#"));
        Check.due("the same text after the error", 14, Check.load(x, FULL_TEXT));
        Check.due("its carriers", 3, x.carrierCount());
        Check.due("its stations", 2, x.stationCount());
        Check.due("its calls", 3, x.callCount());
    }

    private static void nothingToUndoBehindALoad() {
        SatelliteExchange x = used();
        x.load(0);
        Check.due("undoCount behind a load", 0, x.undoCount());
        Check.due("undo behind a load", NOT_FOUND, x.undo());
        Check.due("stations behind that undo", 0, x.stationCount());
        x.advance(3);
        Check.due("undo of a change behind the load", 0, x.undo());
        Check.due("undo stops at the load", NOT_FOUND, x.undo());
        Check.due("frame", 0, x.now());
    }

    private static void failedLoadsChangeTheBufferAlone() {
        String[] texts = {"carriers 4;set gain 1;station c 0 0 0 0;;", "carriers 4;set level 5;set gain 0;",
            TWO + "set step 1;rain c 0 0 1;", TWO + "station b 0 0 0 0;", TWO + CALL + "carriers 2;",
            TWO + CALL.repeat(16) + "call", "station"};
        int[] codes = {SYNTAX, RANGE, NAME, DUPLICATE, ORDER, COUNT, SYNTAX};
        for (int i = 0; i < texts.length; i++) {
            SatelliteExchange x = used();
            Check.due("load of '" + texts[i] + "'", codes[i], Check.load(x, texts[i]));
            Check.alike("a load that answered " + codes[i], x, used());
        }
    }

    private static void placesOfErrors() {
        String[] texts = {"x", " x", "\n\n x ", "", " ", "station", "station ", "station a 1", "station a 1 \n"};
        int[] places = {0, 1, 3, NOT_FOUND, NOT_FOUND, 7, 8, 11, 13};
        SatelliteExchange x = new SatelliteExchange();
        for (int i = 0; i < texts.length; i++) {
            Check.due("load of '" + texts[i] + "'", places[i] < 0 ? 0 : SYNTAX, Check.load(x, texts[i]));
            Check.due("errorPosition of '" + texts[i] + "'", places[i], x.errorPosition());
        }
    }

    private static void errorAtTheEndOfTheBuffer() {
        String[] ends = {"station", "carriers", "set gain", "set gain 5", "x"};
        for (String end : ends) {
            SatelliteExchange x = new SatelliteExchange();
            Check.due("1000 bytes that end with " + end, SYNTAX, Check.load(x, " ".repeat(1000 - end.length()) + end));
            Check.due("place of the error", end.equals("x") ? 999 : 1000, x.errorPosition());
        }
        SatelliteExchange x = new SatelliteExchange();
        Check.due("1000 bytes that end with a statement", 1, Check.load(x, " ".repeat(990) + "set gain5;"));
        Check.due("no error there", NOT_FOUND, x.errorPosition());
        Check.due("the gain", 5, x.getSetting(6));
    }

    private static void whichLoadTheErrorIsOf() {
        SatelliteExchange x = new SatelliteExchange();
        x.load(-1);
        x.load(1);
        Check.due("errorPosition when all loads were BAD_VALUE", NOT_FOUND, x.errorPosition());
        Check.load(x, "     carriers 9;");
        Check.due("errorPosition of an error", 14, x.errorPosition());
        x.load(-1);
        x.load(1);
        x.advance(1);
        x.setSetting(4, 1);
        x.undo();
        x.feed(BLANK, BLANK, BLANK, BLANK, BLANK);
        Check.due("errorPosition stays with BAD_VALUE, changes, undo and feed", 14, x.errorPosition());
        Check.feed(x, " y");
        Check.due("load of what was fed before and behind", SYNTAX, x.load(22));
        Check.due("errorPosition of the later error", 21, x.errorPosition());
        Check.load(x, "");
        Check.due("errorPosition of a load without error", NOT_FOUND, x.errorPosition());
        x.load(-1);
        x.load(1);
        Check.due("errorPosition stays NOT_FOUND with BAD_VALUE", NOT_FOUND, x.errorPosition());
    }

    private static void countsOfStationsAndCalls() {
        StringBuilder text = new StringBuilder();
        for (int n = 0; n <= 6; n++) {
            SatelliteExchange x = Check.loaded(text.toString());
            Check.due("stationCount of " + n, n, x.stationCount());
            text.append("station ").append((char) ('a' + n)).append(" 0 0 0 0;");
        }
        text = new StringBuilder(TWO);
        for (int n = 0; n <= 16; n++) {
            SatelliteExchange x = Check.loaded(text.toString());
            Check.due("callCount of " + n, n, x.callCount());
            x.advance(200);
            Check.due("callCount with the ended ones of " + n, n, x.callCount());
            x.request(0, 1, 0, 1, 1);
            Check.due("callCount of " + n + " and a request", Math.min(16, n + 1), x.callCount());
            text.append(CALL);
        }
    }

    private static void countsOfCarriers() {
        Check.due("carrierCount without the statement", 1, Check.loaded(TWO + CALL).carrierCount());
        for (int n = 1; n <= 4; n++) {
            SatelliteExchange x = Check.loaded("carriers " + n + ";");
            Check.due("carrierCount", n, x.carrierCount());
            Check.due("usedSymbols of the last of " + n, 0, x.usedSymbols(n - 1));
            int beyond = n;
            Check.outOfBounds("usedSymbols one beyond " + n, () -> x.usedSymbols(beyond));
        }
    }

    private static int packed(String name) {
        int packed = 0;
        for (int i = 0; i < 6; i++) {
            packed = packed << 5 | (i < name.length() ? name.charAt(i) - 96 : 0);
        }
        return packed;
    }

    private static void namesOfStations() {
        String[] names = {"abcdef", "abcdeg", "abcde", "bbcdef", "z", "zzzzzz"};
        StringBuilder text = new StringBuilder();
        for (String name : names) {
            text.append("station ").append(name).append(" 0 0 0 0;");
        }
        SatelliteExchange x = Check.loaded(text.toString());
        for (int i = 0; i < names.length; i++) {
            Check.due("stationNamed " + names[i], i, x.stationNamed(packed(names[i])));
            Check.due("stationNamed " + names[i] + " with bit 30", NOT_FOUND, x.stationNamed(packed(names[i]) | 1 << 30));
            Check.due("stationNamed " + names[i] + " with bit 31", NOT_FOUND, x.stationNamed(packed(names[i]) | 1 << 31));
        }
        for (String name : new String[] {"a", "abcd", "abcdee", "abcdeh", "y", "zz", "zzzzz", "zzzzzy", "bcdef"}) {
            Check.due("stationNamed " + name, NOT_FOUND, x.stationNamed(packed(name)));
        }
        Check.due("stationNamed with a group of 27", NOT_FOUND, x.stationNamed(27 << 25));
        Check.due("stationNamed with a group of 31", NOT_FOUND, x.stationNamed(31 << 25));
        Check.due("stationNamed z behind an empty group", NOT_FOUND, x.stationNamed(26 << 20));
        Check.due("stationNamed z in the last group", NOT_FOUND, x.stationNamed(26));
        for (int letters : new int[] {0, -1, Integer.MIN_VALUE, Integer.MAX_VALUE}) {
            Check.due("stationNamed " + letters, NOT_FOUND, x.stationNamed(letters));
            Check.due("stationNamed " + letters + " without stations", NOT_FOUND,
                    new SatelliteExchange().stationNamed(letters));
        }
    }

    private static void namesAtTheirBounds() {
        for (String name : new String[] {"a", "z", "aa", "zzzzz", "aaaaaa", "zzzzzz"}) {
            SatelliteExchange x = Check.loaded("station " + name + " 0 0 0 0;");
            Check.due("a name of " + name.length() + " letters", 0, x.stationNamed(packed(name)));
        }
        for (String name : new String[] {"aaaaaaa", "zzzzzzz", "a".repeat(900)}) {
            SatelliteExchange x = new SatelliteExchange();
            Check.due("a name of " + name.length() + " letters", SYNTAX, Check.load(x, "station " + name + " 0 0 0 0;"));
            Check.due("its place", 8, x.errorPosition());
        }
    }

    private static void settingsAtTheirBounds() {
        String[] words = {"length", "guard", "reference", "preamble", "level", "step", "gain"};
        int[] least = {200, 0, 1, 1, 0, 1, 1};
        int[] greatest = {5000, 200, 500, 200, 999, 100, 100};
        for (int i = 0; i < 7; i++) {
            for (int value : new int[] {least[i], least[i] + 1, greatest[i] - 1, greatest[i]}) {
                SatelliteExchange x = Check.loaded("set " + words[i] + " " + value + ";");
                for (int k = -1; k <= 7; k++) {
                    int[] initial = {1000, 10, 50, 20, 300, 20, 50};
                    int due = k < 0 || k > 6 ? BAD_VALUE : k == i ? value : initial[k];
                    Check.due("getSetting " + k + " with " + words[i] + " " + value, due, x.getSetting(k));
                }
            }
            for (int value : new int[] {least[i] - 1, greatest[i] + 1}) {
                SatelliteExchange x = new SatelliteExchange();
                if (value >= 0) {
                    Check.due("set " + words[i] + " " + value, RANGE, Check.load(x, "set " + words[i] + " " + value + ";"));
                    Check.due("its place", 5 + words[i].length(), x.errorPosition());
                }
            }
        }
        for (int setting : new int[] {-1, 7, 8, Integer.MIN_VALUE, Integer.MAX_VALUE}) {
            Check.due("getSetting " + setting, BAD_VALUE, new SatelliteExchange().getSetting(setting));
        }
    }
}
