/** Promises 1 to 9 and 11, and TEXT FORMAT. */
public final class LoadTest {
    private static final int NOT_FOUND = -1, BAD_VALUE = -2, FULL = -3;
    private static final int SYNTAX = -11, RANGE = -12, NAME = -13, DUPLICATE = -14, ORDER = -15, COUNT = -16;
    private static final String TWO = "station a 0 0 0 0;station b 0 0 0 0;";
    private static final String CALL = "call a b 0 1 1;";

    private LoadTest() {
    }

    public static void main(String[] args) {
        newObject();
        feeding();
        bytesOfFeed();
        loading();
        failedLoads();
        errorPositions();
        counts();
        names();
        settings();
        syntaxErrors();
        reservedNames();
        rangeErrors();
        nameErrors();
        duplicateErrors();
        orderErrors();
        countErrors();
        tokens();
        callsOfTheText();
        Check.end();
    }

    private static void newObject() {
        SatelliteExchange x = new SatelliteExchange();
        Check.due("new stationCount", 0, x.stationCount());
        Check.due("new callCount", 0, x.callCount());
        Check.due("new carrierCount", 1, x.carrierCount());
        Check.due("new now", 0, x.now());
        Check.due("new undoCount", 0, x.undoCount());
        Check.due("new undo", NOT_FOUND, x.undo());
        Check.due("new errorPosition", NOT_FOUND, x.errorPosition());
        Check.due("new load(1): the buffer is empty", BAD_VALUE, x.load(1));
        int[] initial = {1000, 10, 50, 20, 300, 20, 50};
        for (int i = 0; i < 7; i++) {
            Check.due("new getSetting " + i, initial[i], x.getSetting(i));
        }
    }

    private static void feeding() {
        SatelliteExchange x = new SatelliteExchange();
        for (int i = 1; i <= 50; i++) {
            Check.due("feed " + i, 20 * i, x.feed(0x20202020, 0x20202020, 0x20202020, 0x20202020, 0x20202020));
        }
        Check.due("feed 51", FULL, x.feed(1, 2, 3, 4, 5));
        Check.due("load beyond a full buffer", BAD_VALUE, x.load(1001));
        Check.due("load of 1000 spaces", 0, x.load(1000));
        Check.due("feed behind a load", 20, x.feed(0, 0, 0, 0, 0));
    }

    private static void bytesOfFeed() {
        SatelliteExchange x = new SatelliteExchange();
        // "carr" "iers" " 3  " "    " ";   "
        x.feed(0x63617272, 0x69657273, 0x20332020, 0x20202020, 0x3b202020);
        Check.due("load of the bytes in order", 1, x.load(20));
        Check.due("carrierCount from the bytes", 3, x.carrierCount());
        x.feed(0x3b202020, 0x20202020, 0x20202020, 0x20202020, 0x20202020);
        Check.due("the first byte comes first", SYNTAX, x.load(20));
        Check.due("the first byte's place", 0, x.errorPosition());
        x.feed(0x20202020, 0x20202020, 0x20202020, 0x20202020, 0x202020ff);
        Check.due("the last byte comes last", SYNTAX, x.load(20));
        Check.due("the last byte's place", 19, x.errorPosition());
        x.feed(0xe1202020, 0x20202020, 0x20202020, 0x20202020, 0x20202020);
        Check.due("a byte above 127 is no letter", SYNTAX, x.load(20));
    }

    private static void loading() {
        SatelliteExchange x = Check.loaded("carriers 2;" + TWO + CALL + "set gain 7;rain a 1 2 3;");
        x.advance(3);
        Check.feed(x, "station q 0 0 0 0;   ");
        String before = Check.picture(x);
        Check.due("load(-1)", BAD_VALUE, x.load(-1));
        Check.due("load(41)", BAD_VALUE, x.load(41));
        Check.due("load(least int)", BAD_VALUE, x.load(Integer.MIN_VALUE));
        Check.due("load(greatest int)", BAD_VALUE, x.load(Integer.MAX_VALUE));
        Check.unchanged("a load with BAD_VALUE", before, x);
        Check.due("load of the buffer that stayed", 1, x.load(40));
        Check.due("replaced stations", 1, x.stationCount());
        Check.due("replaced calls", 0, x.callCount());
        Check.due("replaced carriers", 1, x.carrierCount());
        Check.due("replaced gain", 50, x.getSetting(6));
        Check.due("replaced rain", 0, x.fade(0, 1));
        Check.due("frame behind a load", 0, x.now());
        Check.due("undoCount behind a load", 0, x.undoCount());
        Check.due("undo behind a load", NOT_FOUND, x.undo());
        Check.due("load emptied the buffer", BAD_VALUE, x.load(1));
        Check.due("load(0) of an empty buffer", 0, x.load(0));
        Check.due("load(0) makes an empty exchange", 0, x.stationCount());
        Check.feed(x, TWO + CALL);
        Check.due("load of a part", 2, x.load(TWO.length()));
        Check.due("the part's calls", 0, x.callCount());
        Check.due("the rest is gone", BAD_VALUE, x.load(1));
        Check.feed(x, TWO);
        Check.due("load(0) of a buffer", 0, x.load(0));
        Check.due("load(0) empties the buffer", 20, x.feed(0, 0, 0, 0, 0));
    }

    private static void failedLoads() {
        SatelliteExchange x = Check.loaded(TWO + "set level 5;" + CALL);
        x.setSetting(4, 6);
        x.advance(2);
        String before = Check.picture(x);
        Check.due("a text with an error behind good statements", SYNTAX,
                Check.load(x, "carriers 3;set length 500;station z 0 0 0 0;station y 0 0 0 0;call z y 0 1 1; ?"));
        Check.due("place of that error", 78, x.errorPosition());
        Check.due("the buffer is emptied", BAD_VALUE, x.load(1));
        Check.due("undoCount stays", 2, x.undoCount());
        Check.due("an empty text", 0, x.load(0));
        x = Check.loaded(TWO + "set level 5;" + CALL);
        x.setSetting(4, 6);
        x.advance(2);
        Check.unchanged("loading the same again", before, x);
        Check.load(x, "station");
        Check.load(x, "");
        x = Check.loaded(TWO + "set level 5;" + CALL);
        x.setSetting(4, 6);
        Check.load(x, "station");
        Check.due("undo behind a failed load", 0, x.undo());
        Check.due("undone level", 5, x.getSetting(4));
    }

    private static void errorPositions() {
        SatelliteExchange x = new SatelliteExchange();
        Check.load(x, "  oops");
        Check.due("errorPosition", 2, x.errorPosition());
        x.load(1);
        Check.due("errorPosition behind BAD_VALUE", 2, x.errorPosition());
        x.advance(1);
        x.undo();
        Check.due("errorPosition behind undo", 2, x.errorPosition());
        Check.load(x, "carriers 1;");
        Check.due("errorPosition behind a good load", NOT_FOUND, x.errorPosition());
        x.load(-1);
        Check.due("errorPosition behind a good load and BAD_VALUE", NOT_FOUND, x.errorPosition());
    }

    private static void counts() {
        StringBuilder text = new StringBuilder("carriers 4;set gain 1;set step 1;set level 1;set preamble 1;");
        text.append("set reference 1;set guard 0;set length 5000;");
        for (char c = 'a'; c <= 'f'; c++) {
            text.append("station ").append(c).append(" 0 0 0 0;");
        }
        for (int i = 0; i < 8; i++) {
            text.append("rain a 0 9999 400;");
        }
        for (int i = 0; i < 16; i++) {
            text.append("call a b 9 1 1;");
        }
        SatelliteExchange x = new SatelliteExchange();
        Check.due("statements of a full exchange", 38, Check.load(x, text.toString()));
        Check.due("stationCount", 6, x.stationCount());
        Check.due("callCount", 16, x.callCount());
        Check.due("carrierCount", 4, x.carrierCount());
        Check.due("fades of eight rains", 3200, x.fade(0, 5));
        x.advance(1);
        Check.due("callCount with ended calls", 16, x.callCount());
        for (int n = 1; n <= 4; n++) {
            Check.due("carriers", n, Check.loaded("carriers " + n + ";").carrierCount());
        }
    }

    private static int packed(int... letters) {
        int name = 0;
        for (int i = 0; i < 6; i++) {
            name = name * 32 + (i < letters.length ? letters[i] : 0);
        }
        return name;
    }

    private static void names() {
        SatelliteExchange x = Check.loaded("station a 0 0 0 0;station zzzzzz 0 0 0 0;station ab 0 0 0 0;");
        Check.due("stationNamed a", 0, x.stationNamed(1 << 25));
        Check.due("stationNamed zzzzzz", 1, x.stationNamed(packed(26, 26, 26, 26, 26, 26)));
        Check.due("stationNamed ab", 2, x.stationNamed(packed(1, 2)));
        Check.due("stationNamed b", NOT_FOUND, x.stationNamed(packed(2)));
        Check.due("stationNamed zzzzz", NOT_FOUND, x.stationNamed(packed(26, 26, 26, 26, 26)));
        Check.due("stationNamed 0", NOT_FOUND, x.stationNamed(0));
        Check.due("stationNamed a in the lowest group", NOT_FOUND, x.stationNamed(1));
        Check.due("stationNamed with a bit above", NOT_FOUND, x.stationNamed(1 << 25 | 1 << 30));
        Check.due("stationNamed with the sign", NOT_FOUND, x.stationNamed(1 << 25 | 1 << 31));
        Check.due("stationNamed a gap b", NOT_FOUND, x.stationNamed(packed(1, 0, 2)));
        Check.due("stationNamed -1", NOT_FOUND, x.stationNamed(-1));
    }

    private static void settings() {
        String[] words = {"length", "guard", "reference", "preamble", "level", "step", "gain"};
        int[] least = {200, 0, 1, 1, 0, 1, 1};
        int[] greatest = {5000, 200, 500, 200, 999, 100, 100};
        for (int i = 0; i < 7; i++) {
            String set = "set " + words[i] + " ";
            Check.due(set + "least", least[i], Check.loaded(set + least[i] + ";").getSetting(i));
            Check.due(set + "greatest", greatest[i], Check.loaded(set + greatest[i] + ";").getSetting(i));
            if (least[i] > 0) {
                refused(set + (least[i] - 1) + ";", RANGE, set.length());
            }
            refused(set + (greatest[i] + 1) + ";", RANGE, set.length());
            refused(set + "- 1;", SYNTAX, set.length());
        }
        SatelliteExchange x = new SatelliteExchange();
        Check.due("getSetting(-1)", BAD_VALUE, x.getSetting(-1));
        Check.due("getSetting(7)", BAD_VALUE, x.getSetting(7));
        Check.due("getSetting(least int)", BAD_VALUE, x.getSetting(Integer.MIN_VALUE));
        Check.due("getSetting(greatest int)", BAD_VALUE, x.getSetting(Integer.MAX_VALUE));
    }

    private static void refused(String text, int code, int place) {
        SatelliteExchange x = new SatelliteExchange();
        Check.due("load of '" + text + "'", code, Check.load(x, text));
        Check.due("errorPosition of '" + text + "'", place, x.errorPosition());
        Check.due("stations of a refused text", 0, x.stationCount());
    }

    private static void accepted(String text, int statements) {
        SatelliteExchange x = new SatelliteExchange();
        Check.due("load of '" + text + "'", statements, Check.load(x, text));
        Check.due("errorPosition of '" + text + "'", NOT_FOUND, x.errorPosition());
    }

    private static void syntaxErrors() {
        refused("x;", SYNTAX, 0);
        refused(";", SYNTAX, 0);
        refused("-", SYNTAX, 0);
        refused("1", SYNTAX, 0);
        refused("length 500;", SYNTAX, 0);
        refused("carriers 2;;", SYNTAX, 11);
        refused("carriers", SYNTAX, 8);
        refused("carriers 2", SYNTAX, 10);
        refused("carriers 2 \n ", SYNTAX, 13);
        refused("carriers ;", SYNTAX, 9);
        refused("carriers -1;", SYNTAX, 9);
        refused("carriers two;", SYNTAX, 9);
        refused("carriers 2 2;", SYNTAX, 11);
        refused("carriers 2 carriers 2;", SYNTAX, 11);
        refused("Carriers 2;", SYNTAX, 0);
        refused("carrierS 2;", SYNTAX, 0);
        refused("carriersx 2;", SYNTAX, 0);
        refused("carrier 2;", SYNTAX, 0);
        refused("carriers\t2;", SYNTAX, 8);
        refused("carriers 2;\r\n", SYNTAX, 11);
        refused("carriers 2,", SYNTAX, 10);
        refused("carriers 2:", SYNTAX, 10);
        refused("carriers 2\u0000;", SYNTAX, 10);
        refused("carriers +2;", SYNTAX, 9);
        refused("station 5 0 0 0 0;", SYNTAX, 8);
        refused("station a - 1 0 0 0;", SYNTAX, 10);
        refused("station a 0 - - 1 0 0;", SYNTAX, 14);
        refused("station a 0 0 - 1 0;", SYNTAX, 14);
        refused("station a 0 0 0;", SYNTAX, 15);
        refused("station a 0 0 0 0 0;", SYNTAX, 18);
        refused("station a 0 0 0 0", SYNTAX, 17);
        refused("station a 0 -;", SYNTAX, 13);
        refused("station \u00e4 0 0 0 0;", SYNTAX, 8);
        refused("station a_ 0 0 0 0;", SYNTAX, 9);
        refused("station a` 0 0 0 0;", SYNTAX, 9);
        refused("station a{ 0 0 0 0;", SYNTAX, 9);
        refused("station a 0/ 0 0 0;", SYNTAX, 11);
        refused(TWO + "rain", SYNTAX, 40);
        refused(TWO + "rain a 0 0;", SYNTAX, 46);
        refused(TWO + "rain a - 0 0 1;", SYNTAX, 43);
        refused(TWO + "rain 1 0 0 1;", SYNTAX, 41);
        refused(TWO + "call a;", SYNTAX, 42);
        refused(TWO + "call a b 0 1;", SYNTAX, 48);
        refused(TWO + "call a b 0 1 1 1;", SYNTAX, 51);
        refused(TWO + "call a - b 0 1 1;", SYNTAX, 43);
        refused(TWO + "call rain b 0 1 1;", SYNTAX, 41);
        refused(TWO + "call a set 0 1 1;", SYNTAX, 43);
        refused("set", SYNTAX, 3);
        refused("set name 5;", SYNTAX, 4);
        refused("set carriers 5;", SYNTAX, 4);
        refused("set gain;", SYNTAX, 8);
        refused("set gain 5", SYNTAX, 10);
        refused("set gains 5;", SYNTAX, 4);
        refused("set gai 5;", SYNTAX, 4);
    }

    private static void reservedNames() {
        for (String word : new String[] {"rain", "call", "set", "level", "step", "gain", "length", "guard",
            "carriers", "station", "reference", "preamble", "abcdefg"}) {
            refused("station " + word + " 0 0 0 0;", SYNTAX, 8);
            refused(TWO + "rain " + word + " 0 0 1;", SYNTAX, 41);
        }
        accepted("station rains 0 0 0 0;station sets 0 0 0 0;station x 0 0 0 0;station abcdef 0 0 0 0;", 4);
        accepted("station name 0 0 0 0;station number 0 0 0 0;station delay 0 0 0 0;station fade 0 0 0 0;", 4);
    }

    private static void rangeErrors() {
        refused("carriers 0;", RANGE, 9);
        refused("carriers 5;", RANGE, 9);
        refused("carriers 99999999999999999999;", RANGE, 9);
        refused("carriers 4294967297;", RANGE, 9);
        refused("carriers 18446744073709551617;", RANGE, 9);
        refused("carriers 5; ?", RANGE, 9);
        accepted("carriers 000000000000000000000000000004;", 1);
        accepted("station a 5000 50 999 999;station b 5000 - 50 0 999;station c 0 -0 0 0;", 3);
        refused("station a 5001 0 0 0;", RANGE, 10);
        refused("station a 0 51 0 0;", RANGE, 12);
        refused("station a 0 - 51 0 0;", RANGE, 14);
        refused("station a 0 -51 0 0;", RANGE, 13);
        refused("station a 0 0 1000 1000;", RANGE, 14);
        refused("station a 0 0 5 1000;", RANGE, 16);
        refused("station a 0 0 5 4;", RANGE, 16);
        accepted("station a 0 0 5 5;", 1);
        accepted(TWO + "rain a 0 0 1;rain a 9999 9999 400;rain b 0 9999 1;", 5);
        refused(TWO + "rain a 10000 10000 1;", RANGE, 43);
        refused(TWO + "rain a 0 10000 1;", RANGE, 45);
        refused(TWO + "rain a 5 4 1;", RANGE, 45);
        refused(TWO + "rain a 0 0 0;", RANGE, 47);
        refused(TWO + "rain a 0 0 401;", RANGE, 47);
        accepted(TWO + "call a b 0 1 1;call b a 9 2000 9999;", 4);
        refused(TWO + "call a b 10 1 1;", RANGE, 45);
        refused(TWO + "call a b 0 0 1;", RANGE, 47);
        refused(TWO + "call a b 0 2001 1;", RANGE, 47);
        refused(TWO + "call a b 0 1 0;", RANGE, 49);
        refused(TWO + "call a b 0 1 10000;", RANGE, 49);
    }

    private static void nameErrors() {
        refused("rain a 0 0 1;", NAME, 5);
        refused(TWO + "rain c 0 0 1;station c 0 0 0 0;", NAME, 41);
        refused(TWO + "rain ab 0 0 1;", NAME, 41);
        refused(TWO + "call c a 0 1 1;", NAME, 41);
        refused(TWO + "call a c 0 1 1;", NAME, 43);
        refused(TWO + "call a a 0 1 1;", NAME, 43);
        refused(TWO + "call c c 0 1 1;", NAME, 41);
    }

    private static void duplicateErrors() {
        refused(TWO + "station a 0 0 0 0;", DUPLICATE, 44);
        refused("carriers 2;carriers 2;", DUPLICATE, 11);
        refused("carriers 2;" + TWO + CALL + "carriers 2;", DUPLICATE, 62);
        refused("set gain 5;set gain 5;", DUPLICATE, 15);
        refused("set length 500;" + TWO + CALL + "set length 500;", DUPLICATE, 70);
        refused("set gain 5;set gain 500;", DUPLICATE, 15);
        accepted("station a 0 0 0 0;station aa 0 0 0 0;", 2);
    }

    private static void orderErrors() {
        refused(TWO + CALL + "carriers 1;", ORDER, 51);
        refused(TWO + CALL + "set length 1000;", ORDER, 55);
        refused(TWO + CALL + "set guard 10;", ORDER, 55);
        refused(TWO + CALL + "set reference 50;", ORDER, 55);
        refused(TWO + CALL + "set preamble 20;", ORDER, 55);
        accepted(TWO + CALL + "set level 1;set step 2;set gain 3;station c 0 0 0 0;rain a 0 0 1;" + CALL, 9);
        accepted(TWO + "set length 1000;set guard 10;set reference 50;set preamble 20;carriers 3;" + CALL, 8);
    }

    private static void countErrors() {
        StringBuilder six = new StringBuilder();
        for (char c = 'a'; c <= 'f'; c++) {
            six.append("station ").append(c).append(" 0 0 0 0;");
        }
        accepted(six.toString(), 6);
        refused(six + "station g 0 0 0 0;", COUNT, 108);
        refused(six + "station", COUNT, 108);
        String rains = "rain a 0 0 1;".repeat(8);
        accepted(six + rains, 14);
        refused(six + rains + "rain a 0 0 1;", COUNT, 212);
        String calls = CALL.repeat(16);
        accepted(six + calls, 22);
        refused(six + calls + CALL, COUNT, 348);
        refused(six + calls + "call rain", COUNT, 348);
    }

    private static void tokens() {
        accepted("", 0);
        accepted(" \n \n", 0);
        accepted("carriers2;set gain5;", 2);
        accepted("\n\ncarriers\n2\n;\n", 1);
        SatelliteExchange x = Check.loaded("station a1 2 3 4;");
        Check.due("a name ends where its letters end", 0, x.stationNamed(1 << 25));
        Check.due("and the delay, the drift and the power follow", 2, x.errorAfter(0, 1));
        Check.due("its power", 3, x.power(0));
    }

    private static void callsOfTheText() {
        SatelliteExchange x = Check.loaded("set length 200;set guard 10;set reference 30;set preamble 20;" + TWO
                + "call a b 0 60 5;call b a 9 60 6;set level 7;");
        Check.due("the first call gets the burst", 40, x.startOf(0));
        Check.due("the second one waits, whatever its priority", 0, x.stateOf(1));
        Check.due("frame of the request", 0, x.waitOf(1));
        Check.due("end of the first call", 5, x.endOf(0));
        Check.due("level", 7, x.getSetting(4));
    }
}
