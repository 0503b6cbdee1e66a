import java.util.ArrayList;
import java.util.Arrays;
import java.util.List;

/** TEXT FORMAT: each place of each statement, each sign, each range and each error, one by one. */
public final class GrammarBoundsTest {
    private static final int NOT_FOUND = -1;
    private static final int SYNTAX = -11, RANGE = -12, NAME = -13, DUPLICATE = -14, ORDER = -15, COUNT = -16;
    private static final String TWO = "station a 0 0 0 0;station b 0 0 0 0;";
    private static final String CALL = "call a b 0 1 1;";
    private static final String[] SETTINGS = {"length", "guard", "reference", "preamble", "level", "step", "gain"};
    private static final String[] RESERVED = {"rain", "call", "set", "level", "step", "gain", "length", "guard",
        "carriers", "station", "reference", "preamble"};
    private static final String[] STATEMENTS = {"carriers 2 ;", "station c 5 6 7 8 ;", "station c 5 - 6 7 8 ;",
        "rain a 2 3 4 ;", "call a b 2 3 4 ;", "set gain 5 ;"};

    private GrammarBoundsTest() {
    }

    public static void main(String[] args) {
        wrongTokens();
        missingTokens();
        endsOfTheText();
        wordsWithOneWrongLetter();
        reservedWords();
        eachSignAlone();
        eachSignBehindANumber();
        eachSignBeforeADrift();
        eachSignAsAName();
        spaces();
        rangesOfStations();
        rangesOfRains();
        rangesOfCalls();
        rangesOfCarriers();
        longNumbers();
        unknownNames();
        duplicates();
        orders();
        counts();
        twoErrorsOfOneToken();
        theFirstOfTwoErrors();
        callsAreAssignedAtOnce();
        Check.end();
    }

    private static SatelliteExchange refused(String text, int code, int place) {
        SatelliteExchange x = new SatelliteExchange();
        Check.due("load of '" + text + "'", code, Check.load(x, text));
        Check.due("errorPosition of '" + text + "'", place, x.errorPosition());
        return x;
    }

    private static SatelliteExchange accepted(String text, int statements) {
        return refused(text, statements, NOT_FOUND);
    }

    private static List<String> tokensOf(String statement) {
        return new ArrayList<>(Arrays.asList(statement.split(" ")));
    }

    /** The tokens that may not stand at a place, told by the token that stands there. */
    private static String[] wrongAt(String statement, int place, String token) {
        if (place == 0) {
            return new String[] {"a", "1", ";", "-", "#", "gain", "length", "carrier", "stations", "abcdefgh"};
        }
        if (token.equals(";")) {
            return new String[] {"a", "1", "-", "#", "set", "carriers"};
        }
        if (statement.startsWith("set") && place == 1) {
            return new String[] {"a", "1", ";", "-", "#", "rain", "call", "set", "carriers", "station", "gains"};
        }
        if (Character.isLetter(token.charAt(0))) {
            return new String[] {"1", ";", "-", "#", "rain", "call", "set", "level", "step", "gain", "length", "guard",
                "carriers", "station", "reference", "preamble", "abcdefg"};
        }
        if (token.equals("-")) {
            return new String[] {"a", ";", "#"};
        }
        // A minus may stand before the drift alone.
        return statement.startsWith("station c 5 6") && place == 3 ? new String[] {"a", ";", "#", "set"}
                : new String[] {"a", ";", "-", "#", "set", "abcdefg"};
    }

    private static void wrongTokens() {
        for (String statement : STATEMENTS) {
            for (int i = 0; i < tokensOf(statement).size(); i++) {
                for (String wrong : wrongAt(statement, i, tokensOf(statement).get(i))) {
                    List<String> tokens = tokensOf(statement);
                    int place = TWO.length() + String.join(" ", tokens.subList(0, i)).length() + (i > 0 ? 1 : 0);
                    tokens.set(i, wrong);
                    refused(TWO + String.join(" ", tokens), SYNTAX, place);
                }
            }
        }
    }

    private static void missingTokens() {
        refused(TWO + "carriers ;", SYNTAX, 45);
        refused(TWO + "station 5 6 7 8;", SYNTAX, 44);
        refused(TWO + "station c 6 7 8;", SYNTAX, 51);
        refused(TWO + "rain 2 3 4;", SYNTAX, 41);
        refused(TWO + "rain a 3 4;", SYNTAX, 46);
        refused(TWO + "call b 2 3 4;", SYNTAX, 43);
        refused(TWO + "call a b 3 4;", SYNTAX, 48);
        refused(TWO + "set 5;", SYNTAX, 40);
        refused(TWO + "set gain;", SYNTAX, 44);
        refused(TWO + "set gain 5 set step 5;", SYNTAX, 47);
    }

    private static void endsOfTheText() {
        for (String statement : STATEMENTS) {
            List<String> tokens = tokensOf(statement);
            for (int i = 1; i < tokens.size(); i++) {
                String begun = TWO + String.join(" ", tokens.subList(0, i));
                refused(begun, SYNTAX, begun.length());
                refused(begun + " ", SYNTAX, begun.length() + 1);
                refused(begun + "\n \n", SYNTAX, begun.length() + 3);
            }
            accepted(TWO + statement, 3);
            accepted(TWO + statement + "\n \n", 3);
        }
    }

    /** Each letter of each word counts, and so does its length. */
    private static void wordsWithOneWrongLetter() {
        for (String statement : STATEMENTS) {
            String word = tokensOf(statement).get(0);
            for (String wrong : nearly(word)) {
                refused(TWO + wrong + statement.substring(word.length()), SYNTAX, TWO.length());
            }
        }
        for (String setting : SETTINGS) {
            accepted("set " + setting + " " + (setting.equals("length") ? 200 : 1) + ";", 1);
            for (String wrong : nearly(setting)) {
                refused("set " + wrong + " 1;", SYNTAX, 4);
            }
        }
    }

    private static List<String> nearly(String word) {
        List<String> words = new ArrayList<>();
        for (int i = 0; i < word.length(); i++) {
            words.add(word.substring(0, i) + (word.charAt(i) == 'q' ? 'r' : 'q') + word.substring(i + 1));
            words.add(word.substring(0, i) + word.charAt(i) + word.substring(i));
        }
        words.add(word.substring(1));
        words.add(word.substring(0, word.length() - 1));
        words.add(word.substring(0, word.length() - 1) + " " + word.charAt(word.length() - 1));
        return words;
    }

    private static void reservedWords() {
        for (String word : RESERVED) {
            refused(TWO + "station " + word + " 0 0 0 0;", SYNTAX, 44);
            refused(TWO + "rain " + word + " 0 0 1;", SYNTAX, 41);
            refused(TWO + "call " + word + " b 0 1 1;", SYNTAX, 41);
            refused(TWO + "call a " + word + " 0 1 1;", SYNTAX, 43);
        }
        for (String word : new String[] {"rains", "rai", "calls", "cal", "sets", "se", "levels", "leve", "steps", "ste",
            "gains", "gai", "lengt", "guards", "guar", "number", "name", "drift", "power"}) {
            accepted("station " + word + " 0 0 0 0;", 1);
        }
    }

    private static void eachSignAlone() {
        for (char c = 0; c < 256; c++) {
            if (c == ' ' || c == '\n') {
                accepted("" + c, 0);
            } else {
                refused("" + c, SYNTAX, 0);
                refused(" carriers 2;" + c, SYNTAX, 12);
            }
        }
    }

    private static void eachSignBehindANumber() {
        for (char c = 0; c < 256; c++) {
            String text = "carriers 2" + c + ";";
            if (c == ' ' || c == '\n') {
                accepted(text, 1);
            } else if (c >= '0' && c <= '9') {
                refused(text, RANGE, 9);
            } else {
                refused(text, SYNTAX, c == ';' ? 11 : 10);
            }
            if (c != ';' && c != ' ' && c != '\n') {
                // In the place of the semicolon.
                refused("carriers 2 " + c, SYNTAX, 11);
            }
        }
    }

    private static void eachSignBeforeADrift() {
        for (char c = 0; c < 256; c++) {
            String text = "station a 0 " + c + "5 0 0;";
            if (c == ' ' || c == '\n' || c == '0') {
                Check.due("drift of '" + text + "'", 5, accepted(text, 1).errorAfter(0, 1));
            } else if (c == '-') {
                Check.due("drift of '" + text + "'", -5, accepted(text, 1).errorAfter(0, 1));
            } else if (c >= '1' && c <= '4') {
                Check.due("drift of '" + text + "'", 10 * (c - '0') + 5, accepted(text, 1).errorAfter(0, 1));
            } else {
                refused(text, c >= '5' && c <= '9' ? RANGE : SYNTAX, 12);
            }
        }
        refused("station a 0 - -5 0 0;", SYNTAX, 14);
        refused("station a -0 5 0 0;", SYNTAX, 10);
        refused("station a 0 5 -0 0;", SYNTAX, 14);
        refused("station a 0 5 0 -0;", SYNTAX, 16);
    }

    private static void eachSignAsAName() {
        for (char c = 0; c < 256; c++) {
            String text = "station " + c + " 0 0 0 0;";
            if (c >= 'a' && c <= 'z') {
                Check.due("the name " + c, 0, accepted(text, 1).stationNamed(c - 'a' + 1 << 25));
            } else {
                refused(text, SYNTAX, c == ' ' || c == '\n' ? 10 : 8);
            }
            // The sign ends the name, or goes on with it.
            String longer = "station a" + c + " 0 0 0 0;";
            if (c >= 'a' && c <= 'z' || c == ' ' || c == '\n') {
                accepted(longer, 1);
            } else if (c >= '0' && c <= '9') {
                // It is the delay, and the fifth integer stands in the place of the semicolon.
                refused(longer, SYNTAX, 17);
            } else {
                refused(longer, SYNTAX, 9);
            }
        }
    }

    private static void spaces() {
        accepted("", 0);
        accepted(" ", 0);
        accepted("\n", 0);
        accepted("set gain5;carriers2;", 2);
        accepted(" set\ngain\n5 \n ; ", 1);
        accepted("station a0 -0 0 0;rain a0 0 1;", 2);
        refused("setgain 5;", SYNTAX, 0);
        refused("set gain 1 0;", SYNTAX, 11);
        refused("set ga in 5;", SYNTAX, 4);
        refused("set gain\t5;", SYNTAX, 8);
        refused("set gain\r5;", SYNTAX, 8);
    }

    private static void rangesOfStations() {
        Check.due("delay 0", 0, accepted("station a 0 0 0 0;", 1).roundTrip(0));
        Check.due("delay 1", 1, accepted("station a 1 0 0 0;", 1).roundTrip(0));
        Check.due("delay 5000", 10, accepted("station a 5000 0 0 0;", 1).roundTrip(0));
        refused("station a 5001 0 0 0;", RANGE, 10);
        Check.due("drift 50", 50, accepted("station a 0 50 0 0;", 1).errorAfter(0, 1));
        Check.due("drift 49", 49, accepted("station a 0 49 0 0;", 1).errorAfter(0, 1));
        Check.due("drift 0", 0, accepted("station a 0 0 0 0;", 1).errorAfter(0, 1));
        Check.due("drift -0", 0, accepted("station a 0 -0 0 0;", 1).errorAfter(0, 1));
        Check.due("drift -49", -49, accepted("station a 0 -49 0 0;", 1).errorAfter(0, 1));
        Check.due("drift -50", -50, accepted("station a 0 -50 0 0;", 1).errorAfter(0, 1));
        refused("station a 0 51 0 0;", RANGE, 12);
        refused("station a 0 -51 0 0;", RANGE, 13);
        Check.due("nominal power 0", 0, accepted("station a 0 0 0 999;", 1).power(0));
        Check.due("nominal power 999", 999, accepted("station a 0 0 999 999;", 1).power(0));
        refused("station a 0 0 1000 1000;", RANGE, 14);
        String rain = "set step 100;rain a 1 9 400;";
        Check.due("greatest power as the nominal one", 998, accepted("station a 0 0 998 998;" + rain, 3).powerAfter(0, 9));
        Check.due("greatest power one more", 999, accepted("station a 0 0 998 999;" + rain, 3).powerAfter(0, 9));
        refused("station a 0 0 998 997;", RANGE, 18);
        refused("station a 0 0 998 1000;", RANGE, 18);
        refused("station a 0 0 1 0;", RANGE, 16);
    }

    private static void rangesOfRains() {
        SatelliteExchange x = accepted(TWO + "rain a 0 0 1;rain a 9999 9999 400;rain b 0 9999 399;rain a 8 8 2;"
                + "rain a 9998 9999 2;", 7);
        int[][] due = {{0, 1}, {1, 0}, {7, 0}, {8, 2}, {9, 0}, {9997, 0}, {9998, 2}, {9999, 402}};
        for (int[] one : due) {
            Check.due("fade in " + one[0], one[1], x.fade(0, one[0]));
            Check.due("fade of the other one in " + one[0], 399, x.fade(1, one[0]));
        }
        refused(TWO + "rain a 10000 10000 1;", RANGE, 43);
        refused(TWO + "rain a 9999 10000 1;", RANGE, 48);
        refused(TWO + "rain a 9999 9998 1;", RANGE, 48);
        refused(TWO + "rain a 8 7 1;", RANGE, 45);
        refused(TWO + "rain a 1 0 1;", RANGE, 45);
        refused(TWO + "rain a 8 8 0;", RANGE, 47);
        refused(TWO + "rain a 8 8 401;", RANGE, 47);
    }

    private static void rangesOfCalls() {
        SatelliteExchange x = accepted(TWO + "call a b 0 1 1;call b a 9 2000 9999;call a b 8 1999 9998;"
                + "call a b 1 2 9999;", 6);
        int[] priorities = {0, 9, 8, 1};
        int[] bursts = {21, 2020, 2019, 22};
        for (int k = 0; k < 4; k++) {
            Check.due("priority of call " + k, priorities[k], x.priorityOf(k));
            Check.due("burst of call " + k, bursts[k], x.burstOf(k));
        }
        Check.due("a hold of 1", 1, x.endOf(0));
        Check.due("a hold of 9999", 9999, x.endOf(3));
        refused(TWO + "call a b 10 1 1;", RANGE, 45);
        refused(TWO + "call a b 0 0 1;", RANGE, 47);
        refused(TWO + "call a b 0 2001 1;", RANGE, 47);
        refused(TWO + "call a b 0 1 0;", RANGE, 49);
        refused(TWO + "call a b 0 1 10000;", RANGE, 49);
    }

    private static void rangesOfCarriers() {
        for (int n = 1; n <= 4; n++) {
            Check.due("carriers " + n, n, accepted("carriers " + n + ";", 1).carrierCount());
        }
        refused("carriers 0;", RANGE, 9);
        refused("carriers 5;", RANGE, 9);
    }

    private static void longNumbers() {
        for (String number : new String[] {"2147483647", "2147483648", "4294967296", "4294967298", "9223372036854775807",
            "9223372036854775808", "18446744073709551616", "18446744073709551618", "1".repeat(900), "2" + "0".repeat(900),
            "1000000", "1000001", "10000002"}) {
            refused("carriers " + number + ";", RANGE, 9);
            refused("set length " + number + ";", RANGE, 11);
        }
        Check.due("a number with zeros ahead", 2, accepted("carriers " + "0".repeat(900) + "2;", 1).carrierCount());
        refused("carriers " + "0".repeat(900) + ";", RANGE, 9);
    }

    private static void unknownNames() {
        refused("rain a 0 0 1;", NAME, 5);
        refused("rain a 0 0 1;" + TWO, NAME, 5);
        refused("call a b 0 1 1;", NAME, 5);
        refused("station a 0 0 0 0;call a b 0 1 1;station b 0 0 0 0;", NAME, 25);
        refused("station a 0 0 0 0;call b a 0 1 1;station b 0 0 0 0;", NAME, 23);
        refused(TWO + "call a a 0 1 1;", NAME, 43);
        refused(TWO + "call b b 0 1 1;", NAME, 43);
        refused(TWO + "call c c 0 1 1;", NAME, 41);
        refused(TWO + "rain aa 0 0 1;", NAME, 41);
        refused(TWO + "rain abcdef 0 0 1;", NAME, 41);
        accepted(TWO + "call a b 0 1 1;call b a 0 1 1;rain a 0 0 1;rain b 0 0 1;", 6);
    }

    private static void duplicates() {
        refused(TWO + "station a 0 0 0 0;", DUPLICATE, 44);
        refused(TWO + "station b 0 0 0 0;", DUPLICATE, 44);
        refused(TWO + CALL + "station a 0 0 0 0;", DUPLICATE, 59);
        accepted(TWO + "station ab 0 0 0 0;station ba 0 0 0 0;", 4);
        refused("carriers 2;carriers 2;", DUPLICATE, 11);
        refused("carriers 2;" + TWO + "carriers", DUPLICATE, 47);
        StringBuilder all = new StringBuilder();
        for (int i = 0; i < SETTINGS.length; i++) {
            String set = "set " + SETTINGS[i] + (i == 0 ? " 200;" : " 1;");
            all.append(set);
            refused(set + set, DUPLICATE, set.length() + 4);
            refused(set + "set " + SETTINGS[(i + 1) % 7] + (i == 6 ? " 200;" : " 1;") + set, DUPLICATE,
                    set.length() + SETTINGS[(i + 1) % 7].length() + (i == 6 ? 9 : 7) + 4);
        }
        accepted(all.toString(), 7);
        for (String setting : SETTINGS) {
            refused(all + "set " + setting + " 200;", DUPLICATE, all.length() + 4);
        }
    }

    private static void orders() {
        String begun = TWO + CALL;
        refused(begun + "carriers 1;", ORDER, begun.length());
        for (int i = 0; i < SETTINGS.length; i++) {
            String set = "set " + SETTINGS[i] + (i == 0 ? " 1000;" : " 10;");
            accepted(TWO + set + CALL, 4);
            if (i < 4) {
                refused(begun + set, ORDER, begun.length() + 4);
                refused(begun + CALL + "rain a 0 0 1;" + set, ORDER, begun.length() + CALL.length() + 17);
            } else {
                accepted(begun + set, 4);
            }
        }
        accepted(TWO + "carriers 1;" + CALL, 4);
        // A call that waits is a call too.
        refused(TWO + "call a b 0 2000 1;carriers 1;", ORDER, 54);
        accepted(begun + "station c 0 0 0 0;rain c 0 0 1;call c a 0 1 1;", 6);
    }

    private static void counts() {
        StringBuilder stations = new StringBuilder();
        for (char c = 'a'; c <= 'f'; c++) {
            stations.append("station ").append(c).append(" 0 0 0 0;");
        }
        String rains = "rain a 0 0 1;";
        Check.due("six stations", 6, accepted(stations.toString(), 6).stationCount());
        refused(stations + "station g 0 0 0 0;", COUNT, stations.length());
        refused(stations + "station a 0 0 0 0;", COUNT, stations.length());
        refused(stations + "station", COUNT, stations.length());
        Check.due("eight rains", 8, accepted(TWO + rains.repeat(8), 10).fade(0, 0));
        refused(TWO + rains.repeat(9), COUNT, TWO.length() + 8 * rains.length());
        refused(TWO + rains.repeat(8) + "rain q", COUNT, TWO.length() + 8 * rains.length());
        refused(TWO + rains.repeat(4) + "rain b 0 0 1;".repeat(4) + "rain", COUNT, TWO.length() + 8 * rains.length());
        Check.due("sixteen calls", 16, accepted(TWO + CALL.repeat(16), 18).callCount());
        refused(TWO + CALL.repeat(17), COUNT, TWO.length() + 16 * CALL.length());
        refused(TWO + CALL.repeat(16) + "call a a", COUNT, TWO.length() + 16 * CALL.length());
        accepted(TWO + CALL.repeat(16) + rains.repeat(8) + "set gain 1;station c 0 0 0 0;", 28);
    }

    private static void twoErrorsOfOneToken() {
        refused("carriers 2;" + TWO + CALL + "carriers 2;", DUPLICATE, 62);
        for (int i = 0; i < 4; i++) {
            String set = "set " + SETTINGS[i] + " 200;";
            if (i == 3) {
                set = "set " + SETTINGS[i] + " 100;";
            }
            refused(set + TWO + CALL + set, DUPLICATE, set.length() + 55);
        }
    }

    /** Of two errors the one that stands first in the text is reported, whichever codes they have. */
    private static void theFirstOfTwoErrors() {
        String begun = TWO + CALL;
        String[] errors = {"x;", "set gain 0;", "rain q 0 0 1;", "station a 0 0 0 0;", "carriers 1;",
            "set guard 5;", "call a a 0 1 1;", "set gain 101;", "set gain;"};
        int[] codes = {SYNTAX, RANGE, NAME, DUPLICATE, ORDER, ORDER, NAME, RANGE, SYNTAX};
        int[] places = {0, 9, 5, 8, 0, 4, 7, 9, 8};
        for (int i = 0; i < errors.length; i++) {
            for (String later : errors) {
                refused(begun + errors[i] + later, codes[i], begun.length() + places[i]);
            }
        }
        refused("station a 5001 51 1000 1000", RANGE, 10);
        refused("station a 0 51 1000 1000", RANGE, 12);
        refused("station a 0 0 1000 1000", RANGE, 14);
        refused(TWO + "call q q 10 0 0", NAME, 41);
        refused(TWO + "call a a 10 0 0", NAME, 43);
        refused(TWO + "call a b 10 0 0", RANGE, 45);
        refused(TWO + "rain a 2 1 0", RANGE, 45);
        refused(TWO + "set gain 0 0", RANGE, 45);
        refused(TWO + "set gain 0", RANGE, 45);
    }

    private static void callsAreAssignedAtOnce() {
        // One call fills the frame; the next one has a higher priority, but comes later.
        SatelliteExchange x = accepted("set length 200;" + TWO + "call a b 0 100 5;call b a 9 100 5;set level 1;", 6);
        Check.due("the first call", 1, x.stateOf(0));
        Check.due("the second call", 0, x.stateOf(1));
        Check.due("the queue", 1, x.queueLength());
        Check.due("frame of a text", 0, x.now());
        Check.due("requested in frame 0", 0, x.waitOf(1));
        Check.due("active from frame 0 on", 5, x.endOf(0));
        Check.due("a call of the text is no change", 0, x.undoCount());
    }
}
