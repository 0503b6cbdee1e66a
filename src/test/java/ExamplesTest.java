/** The document's three examples, as they stand there. */
public final class ExamplesTest {
    private ExamplesTest() {
    }

    public static void main(String[] args) {
        first();
        second();
        third();
        Check.end();
    }

    private static void first() {
        SatelliteExchange x = new SatelliteExchange();
        Check.due("feed 1", 20, x.feed(1936028704, 1818586727, 1952981044, 808467315, 1702109287));
        Check.due("feed 2", 40, x.feed(1969320548, 540094523, 1936028704, 1919247973, 1919250019));
        Check.due("feed 3", 60, x.feed(1696609072, 997422177, 1953066862, 543236147, 808460340));
        Check.due("feed 4", 80, x.feed(540225584, 540226608, 997422177, 1953066862, 543301681));
        Check.due("feed 5", 100, x.feed(808460333, 540155955, 842014772, 808467315, 1952543849));
        Check.due("feed 6", 120, x.feed(1869488227, 540024880, 540225840, 540225840, 997351785));
        Check.due("feed 7", 140, x.feed(1847615776, 840971040, 842349411, 1634495520, 1629512224));
        Check.due("feed 8", 160, x.feed(891302197, 807416635, 1667329132, 543367265, 540090417));
        Check.due("feed 9", 180, x.feed(808460338, 996368748, 1814061600, 1663056160, 825241632));
        Check.due("feed 10", 200, x.feed(876290080, 538976288, 538976288, 538976288, 538976288));
        Check.due("load(182)", 10, x.load(182));
        Check.due("startOf(0)", 40, x.startOf(0));
        Check.due("startOf(1)", 220, x.startOf(1));
        Check.due("stateOf(2)", 0, x.stateOf(2));
        Check.due("callsToDrop(2)", 1, x.callsToDrop(2));
    }

    private static void second() {
        SatelliteExchange x = new SatelliteExchange();
        Check.due("feed", 20, x.feed(1937006964, 1768910368, 1629500208, 807416864, 824193339));
        Check.due("load(20)", 1, x.load(20));
        Check.due("advance(4)", 4, x.advance(4));
        Check.due("timingError(0)", 10, x.timingError(0));
    }

    private static void third() {
        SatelliteExchange x = new SatelliteExchange();
        Check.due("feed", 20, x.feed(1667330674, 1768256115, 540352544, 538976288, 538976288));
        Check.due("load(10)", -12, x.load(10));
        Check.due("errorPosition()", 9, x.errorPosition());
        Check.due("longestFit(0)", 930, x.longestFit(0));
    }
}
