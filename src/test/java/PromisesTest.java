import java.util.function.IntSupplier;

/** For each promise of ../shared/DOC.md ordinary inputs, the edges that it names, and wrong inputs. */
public final class PromisesTest {
    private static int wrong;
    private static int promise;

    public static void main(String[] args) {
        constants();
        promise1NewObject();
        promise2AddCover();
        promise3AddLayer();
        promise4AddEvent();
        promise5AddClaim();
        promise6RemoveClaim();
        promise7SetDay();
        promise8SetDeductible();
        promise9SetIndex();
        promise10SetRecovery();
        promise11Append();
        promise12Read();
        promise13FaultPosition();
        promise14Undo();
        promise15Count();
        promise16Cover();
        promise17Layer();
        promise18Deductible();
        promise19Event();
        promise20EventAt();
        promise21Claim();
        promise22Gross();
        promise23Deducted();
        promise24Paid();
        promise25LeftBefore();
        promise26Borne();
        promise27Returned();
        promise28Place();
        promise29Worst();
        promise30Account();
        promise31Result();
        promise32RatioBits();
        promise33IsBalanced();
        promise34PaidIf();
        promise35LeastLimit();
        promise36File();
        promise37Use();
        promise38Filed();
        promise39Save();
        promise40Restore();
        System.out.println(wrong == 0 ? "all promises hold" : wrong + " answers are not as due");
        if (wrong != 0) {
            System.exit(1);
        }
    }

    private static void due(String call, int got, int want) {
        if (got != want) {
            wrong++;
            System.out.println("promise " + promise + ": " + call + " answered " + got + ", due is " + want);
        }
    }

    private static void due(String call, IntSupplier got, int want) {
        due(call, got.getAsInt(), want);
    }

    /** Appends a text four characters at a time; the last answer. */
    private static int write(LayeredClaims x, String text) {
        int answer = 0;
        for (int i = 0; i < text.length(); i += 4) {
            int packed = 0;
            for (int j = i; j < i + 4; j++) {
                packed = packed << 8 | (j < text.length() ? text.charAt(j) : 0);
            }
            answer = x.append(packed);
        }
        return answer;
    }

    private static int readText(LayeredClaims x, String text) {
        write(x, text);
        return x.read();
    }

    /** Three covers, of which the first two share a deductible, two layers and three events. */
    private static LayeredClaims desk() {
        LayeredClaims x = new LayeredClaims();
        x.addCover(1000, 1500, 400, 0);
        x.addCover(2000, 9000, 600, 0);
        x.addCover(500, 500, 50, 2);
        x.addLayer(500, 1000, 300, 1);
        x.addLayer(1500, 800, 100, 0);
        x.setDeductible(0, 300);
        x.addEvent(100);
        x.addEvent(50);
        x.addEvent(100);
        x.addClaim(0, 0, 700);
        x.addClaim(0, 0, 500);
        x.addClaim(0, 1, 1500);
        x.addClaim(1, 0, 900);
        x.addClaim(2, 0, 200);
        x.addClaim(2, 2, 600);
        return x;
    }

    /** All data of a desk and what they come to, by few calls, for an object is used for 512 at most. */
    private static String fingerprint(LayeredClaims x) {
        StringBuilder all = new StringBuilder();
        for (int i = 0; i < x.count(0); i++) {
            for (int what = 0; what < 4; what++) {
                all.append(x.cover(i, what)).append(' ');
            }
        }
        for (int i = 0; i < x.count(1); i++) {
            for (int what = 0; what < 4; what++) {
                all.append(x.layer(i, what)).append(' ');
            }
        }
        for (int i = 0; i < x.count(2); i++) {
            all.append(x.event(i, 0)).append(' ').append(x.event(i, 1)).append(' ');
        }
        for (int i = 0; i < x.count(3); i++) {
            for (int what = 0; what < 3; what++) {
                all.append(x.claim(i, what)).append(' ');
            }
        }
        int[] others = {x.count(0), x.count(1), x.count(2), x.count(3), x.count(5), x.deductible(0), x.deductible(1),
            x.deductible(2)};
        all.append(java.util.Arrays.toString(others));
        for (int what = 0; what < 9; what++) {
            all.append(' ').append(x.account(what));
        }
        return all.toString();
    }

    private static void dueSame(String call, LayeredClaims x, String want) {
        due(call + " brings all back", fingerprint(x).equals(want) ? 1 : 0, 1);
    }

    private static void constants() {
        due("NO_SUCH_ELEMENT", LayeredClaims.NO_SUCH_ELEMENT, -1);
        due("BAD_VALUE", LayeredClaims.BAD_VALUE, -2);
        due("FULL", LayeredClaims.FULL, -3);
        due("NONE", LayeredClaims.NONE, -4);
        due("STATE", LayeredClaims.STATE, -5);
        due("UNLIKE", LayeredClaims.UNLIKE, -6);
    }

    private static void promise1NewObject() {
        promise = 1;
        LayeredClaims x = new LayeredClaims();
        for (int what = 0; what <= 5; what++) {
            due("count", x.count(what), 0);
        }
        for (int group = 0; group < 3; group++) {
            due("deductible", x.deductible(group), 0);
        }
        for (int tray = 0; tray < 3; tray++) {
            for (int place = 0; place < 4; place++) {
                due("filed", x.filed(tray, place), -4);
            }
        }
        due("faultPosition", x.faultPosition(), -4);
        due("undo", x.undo(), -4);
        due("restore", x.restore(), -5);
        due("worst", x.worst(), -4);
        due("result", x.result(), 10000000);
        due("isBalanced", x.isBalanced(), 1);
        due("returned of no event", x.returned(0, 0), -1);
    }

    private static void promise2AddCover() {
        promise = 2;
        LayeredClaims x = new LayeredClaims();
        due("addCover least", x.addCover(1, 1, 0, 0), 0);
        due("addCover most", x.addCover(99999, 99999, 99999, 2), 1);
        due("cover 0", x.cover(1, 0), 99999);
        due("cover 1", x.cover(1, 1), 99999);
        due("cover 2", x.cover(1, 2), 99999);
        due("cover 3", x.cover(1, 3), 2);
        int[][] bad = {{0, 1, 0, 0}, {100000, 1, 0, 0}, {1, 0, 0, 0}, {1, 100000, 0, 0}, {1, 1, -1, 0},
            {1, 1, 100000, 0}, {1, 1, 0, -1}, {1, 1, 0, 3}, {Integer.MIN_VALUE, 1, 0, 0}};
        for (int[] row : bad) {
            due("addCover bad", x.addCover(row[0], row[1], row[2], row[3]), -2);
        }
        due("covers", x.count(0), 2);
        for (int i = 2; i < 6; i++) {
            due("addCover", x.addCover(5, 6, 7, 1), i);
        }
        due("addCover full", x.addCover(5, 6, 7, 1), -3);
        due("addCover full and bad", x.addCover(0, 6, 7, 1), -2);
        due("covers", x.count(0), 6);
    }

    private static void promise3AddLayer() {
        promise = 3;
        LayeredClaims x = new LayeredClaims();
        int[][] bad = {{-1, 1, 0, 0}, {1000000, 1, 0, 0}, {0, 0, 0, 0}, {0, 100000, 0, 0}, {0, 1, -1, 0},
            {0, 1, 100000, 0}, {0, 1, 0, -1}, {0, 1, 0, 4}};
        for (int[] row : bad) {
            due("addLayer bad", x.addLayer(row[0], row[1], row[2], row[3]), -2);
        }
        due("addLayer", x.addLayer(0, 1, 0, 0), 0);
        due("addLayer below", x.addLayer(0, 1, 0, 0), -5);
        due("addLayer below and bad", x.addLayer(0, 1, 0, 4), -2);
        due("addLayer at the end", x.addLayer(1, 99999, 99999, 3), 1);
        due("layer 0", x.layer(1, 0), 1);
        due("layer 1", x.layer(1, 1), 99999);
        due("layer 2", x.layer(1, 2), 99999);
        due("layer 3", x.layer(1, 3), 3);
        due("addLayer one below", x.addLayer(99999, 1, 0, 0), -5);
        due("addLayer at the end", x.addLayer(100000, 1, 0, 0), 2);
        due("addLayer above", x.addLayer(999998, 1, 0, 0), 3);
        due("addLayer full and below", x.addLayer(999998, 1, 0, 0), -5);
        due("addLayer full", x.addLayer(999999, 1, 0, 0), -3);
        due("layers", x.count(1), 4);
    }

    private static void promise4AddEvent() {
        promise = 4;
        LayeredClaims x = new LayeredClaims();
        due("addEvent -1", x.addEvent(-1), -2);
        due("addEvent 365", x.addEvent(365), -2);
        due("addEvent 0", x.addEvent(0), 0);
        due("addEvent 364", x.addEvent(364), 1);
        due("day", x.event(1, 0), 364);
        due("recovery", x.event(1, 1), 0);
        for (int i = 2; i < 8; i++) {
            due("addEvent", x.addEvent(7), i);
        }
        due("addEvent full", x.addEvent(7), -3);
        due("addEvent full and bad", x.addEvent(365), -2);
        LayeredClaims y = new LayeredClaims();
        y.addEvent(3);
        y.setRecovery(0, 77);
        y.undo();
        y.undo();
        y.addEvent(4);
        due("recovery of a new event", y.event(0, 1), 0);
    }

    private static void promise5AddClaim() {
        promise = 5;
        LayeredClaims x = new LayeredClaims();
        due("addClaim no event", x.addClaim(0, 0, 0), -1);
        x.addEvent(10);
        due("addClaim no cover", x.addClaim(0, 0, 5), -1);
        x.addCover(10, 10, 0, 0);
        due("addClaim event -1", x.addClaim(-1, 0, 5), -1);
        due("addClaim event 1", x.addClaim(1, 0, 5), -1);
        due("addClaim cover -1", x.addClaim(0, -1, 5), -1);
        due("addClaim cover 1", x.addClaim(0, 1, 5), -1);
        due("addClaim bad and no cover", x.addClaim(0, 1, 0), -1);
        due("addClaim 0", x.addClaim(0, 0, 0), -2);
        due("addClaim 100000", x.addClaim(0, 0, 100000), -2);
        due("addClaim 1", x.addClaim(0, 0, 1), 0);
        due("addClaim 99999", x.addClaim(0, 0, 99999), 1);
        for (int i = 2; i < 24; i++) {
            due("addClaim", x.addClaim(0, 0, 3), i);
        }
        due("addClaim full", x.addClaim(0, 0, 3), -3);
        due("addClaim full and bad", x.addClaim(0, 0, 0), -2);
        due("addClaim full and no event", x.addClaim(1, 0, 3), -1);
        due("claims", x.count(3), 24);
    }

    private static void promise6RemoveClaim() {
        promise = 6;
        LayeredClaims x = desk();
        due("removeClaim -1", x.removeClaim(-1), -1);
        due("removeClaim 6", x.removeClaim(6), -1);
        due("removeClaim 1", x.removeClaim(1), 5);
        due("amount 0", x.claim(0, 2), 700);
        due("event 1", x.claim(1, 0), 0);
        due("cover 1", x.claim(1, 1), 1);
        due("amount 1", x.claim(1, 2), 1500);
        due("event 4", x.claim(4, 0), 2);
        due("cover 4", x.claim(4, 1), 2);
        due("amount 4", x.claim(4, 2), 600);
        due("claim 5", x.claim(5, 0), -1);
        due("removeClaim last", x.removeClaim(4), 4);
        due("removeClaim 1", x.removeClaim(1), 3);
        due("event 1", x.claim(1, 0), 1);
        due("cover 1", x.claim(1, 1), 0);
        x.undo();
        for (int i = 3; i >= 0; i--) {
            due("removeClaim first", x.removeClaim(0), i);
        }
        due("removeClaim of none", x.removeClaim(0), -1);
        for (int i = 0; i < 24; i++) {
            x.addClaim(0, 0, i + 1);
        }
        due("removeClaim of 24", x.removeClaim(0), 23);
        due("amount 22", x.claim(22, 2), 24);
    }

    private static void promise7SetDay() {
        promise = 7;
        LayeredClaims x = desk();
        due("setDay no event", x.setDay(3, 5), -1);
        due("setDay -1", x.setDay(-1, 5), -1);
        due("setDay no event and bad", x.setDay(3, 365), -1);
        due("setDay bad", x.setDay(0, 365), -2);
        due("setDay bad", x.setDay(0, -1), -2);
        due("setDay", x.setDay(0, 0), 100);
        due("setDay", x.setDay(0, 364), 0);
        due("setDay", x.setDay(0, 50), 364);
        due("day", x.event(0, 0), 50);
        due("position", x.event(0, 7), 0);
        due("position", x.event(1, 7), 1);
    }

    private static void promise8SetDeductible() {
        promise = 8;
        LayeredClaims x = desk();
        due("setDeductible -1", x.setDeductible(-1, 5), -1);
        due("setDeductible 3", x.setDeductible(3, -5), -1);
        due("setDeductible bad", x.setDeductible(2, -1), -2);
        due("setDeductible bad", x.setDeductible(2, 100000), -2);
        due("setDeductible", x.setDeductible(0, 99999), 300);
        due("setDeductible", x.setDeductible(0, 0), 99999);
        due("setDeductible", x.setDeductible(2, 12), 0);
        due("deductible", x.deductible(2), 12);
        due("deductible", x.deductible(0), 0);
    }

    private static void promise9SetIndex() {
        promise = 9;
        LayeredClaims x = desk();
        due("setIndex bad", x.setIndex(-1), -2);
        due("setIndex bad", x.setIndex(101), -2);
        due("setIndex", x.setIndex(100), 0);
        // Day 50: 100 * 50 / 30 = 166, and 900 * 1.166f = 1049.4.
        due("loss", x.claim(3, 3), 1049);
        due("setIndex", x.setIndex(1), 100);
        // Day 100: 3, and 700 * 1.003f = 702.1; day 50: 1, and 900 * 1.001f = 900.9.
        due("loss", x.claim(0, 3), 702);
        due("loss", x.claim(3, 3), 900);
        due("setIndex", x.setIndex(0), 1);
        due("loss", x.claim(0, 3), 700);
        LayeredClaims y = new LayeredClaims();
        y.addCover(99999, 99999, 0, 0);
        y.addEvent(364);
        y.addEvent(29);
        y.setIndex(100);
        y.addClaim(0, 0, 99999);
        y.addClaim(1, 0, 1000);
        due("loss of the last day", y.claim(0, 3), (int) (99999.0f * (1.0f + 1213.0f / 1000.0f)));
        due("loss of day 29", y.claim(1, 3), (int) (1000.0f * (1.0f + 96.0f / 1000.0f)));
        due("gross", y.gross(0, 0), 99999);
    }

    private static void promise10SetRecovery() {
        promise = 10;
        LayeredClaims x = desk();
        due("setRecovery no event", x.setRecovery(3, 5), -1);
        due("setRecovery -1", x.setRecovery(-1, -5), -1);
        due("setRecovery bad", x.setRecovery(0, -1), -2);
        due("setRecovery bad", x.setRecovery(0, 1000000), -2);
        due("setRecovery", x.setRecovery(0, 999999), 0);
        due("burden", x.event(0, 5), 0);
        due("setRecovery", x.setRecovery(0, 2199), 999999);
        due("burden", x.event(0, 5), 1);
        due("setRecovery", x.setRecovery(0, 0), 2199);
        due("burden", x.event(0, 5), 2200);
    }

    private static void promise11Append() {
        promise = 11;
        LayeredClaims x = new LayeredClaims();
        due("append nothing", x.append(0), 0);
        due("append e", x.append('e' << 24), 1);
        due("append 1", x.append('1'), 2);
        due("append 2;", x.append('2' << 16 | ';'), 4);
        due("append e", x.append('e' << 8), 5);
        due("append 7", x.append('7' << 16), 6);
        due("read", x.read(), 2);
        due("day", x.event(0, 0), 12);
        due("day", x.event(1, 0), 7);
        due("append !", x.append(33), 1);
        due("append ~", x.append(126 << 24), 2);
        due("append space", x.append(32), -2);
        due("append 127", x.append(127 << 8), -2);
        due("append 128", x.append(0x80000000), -2);
        due("append 255", x.append(-1), -2);
        due("append 1 at the end", x.append('e' << 24 | 1), -2);
        due("length", x.count(4), 2);
        x.read();
        for (int i = 1; i <= 14; i++) {
            due("append", x.append(0x65656565), 4 * i);
        }
        due("append to 59", x.append(0x656565), 59);
        due("append two", x.append(0x6565), -3);
        due("append four", x.append(0x65656565), -3);
        due("append full and bad", x.append(0x65650165), -2);
        due("length", x.count(4), 59);
        due("append one", x.append(0x650000), 60);
        due("append one", x.append(0x65), -3);
        due("append nothing", x.append(0), 60);
        due("append bad", x.append(32), -2);
    }

    private static void promise12Read() {
        promise = 12;
        LayeredClaims x = new LayeredClaims();
        due("read of nothing", x.read(), -2);
        x.addCover(5000, 6000, 0, 1);
        due("read", readText(x, "e40;c0,0,2500;r0=300"), 3);
        due("length", x.count(4), 0);
        due("day", x.event(0, 0), 40);
        due("amount", x.claim(0, 2), 2500);
        due("recovery", x.event(0, 1), 300);
        due("zeros at the front", readText(x, "e000041;c000001,000000,000007;r000001=000009"), 3);
        due("day", x.event(1, 0), 41);
        due("amount", x.claim(1, 2), 7);
        due("recovery", x.event(1, 1), 9);
        due("refused event", readText(x, "e364;e365"), -5);
        due("events", x.count(2), 2);
        due("length", x.count(4), 0);
        due("refused recovery of a later event", readText(x, "r2=5;e10"), -5);
        due("refused claim", readText(x, "c0,0,9;c0,1,9"), -5);
        due("refused amount", readText(x, "c0,0,100000"), -5);
        due("refused amount 0", readText(x, "c0,0,0"), -5);
        due("claims", x.count(3), 2);
        due("most recovery", readText(x, "r0=999999"), 1);
        due("fault", readText(x, "e1;x"), -2);
        due("length", x.count(4), 0);
        due("events", x.count(2), 2);
        due("six events", readText(x, "e1;e2;e3;e4;e5;e6"), 6);
        due("full", readText(x, "r1=4;e7"), -5);
        due("recovery is back", x.event(1, 1), 9);
        due("undo of one read", x.undo(), 4);
        due("events", x.count(2), 2);
        due("all parts", readText(x, "c1,0,12345"), 1);
        due("event", x.claim(2, 0), 1);
        due("cover", x.claim(2, 1), 0);
        due("amount", x.claim(2, 2), 12345);
        due("full text", readText(x, "r000000=000001;r000000=000002;r000000=000003;r00000=00000004"), -2);
        due("fault at the seventh digit", x.faultPosition(), 58);
        due("full text", readText(x, "r000000=000001;r000000=000002;r000000=000003;r0000001=00000"), -2);
        due("fault at the seventh digit", x.faultPosition(), 52);
        // The 61st character is not appended, so that the last amount is 0.
        due("full text", readText(x, "c000000,000000,000001;c000000,000000,000002;c000000,000000,07"), -5);
        due("refused entry", x.faultPosition(), 44);
        due("full text", readText(x, "c000000,000000,000001;c000000,000000,000002;c000000,000000,"), -2);
        due("too early", x.faultPosition(), 59);
        // 20 entries in 60 characters.
        LayeredClaims y = new LayeredClaims();
        y.addEvent(0);
        due("20 entries", readText(y, "r0=1;r0=2;r0=3;r0=4;r0=5;r0=6;r0=7;r0=8;r0=9;r0=10;r0=11"), 11);
        due("recovery", y.event(0, 1), 11);
        due("20 entries", readText(y, "e1;e1;e1;e1;e1;e1;e1;e1;e1;e1;e1;e1;e1;e1;e1;e1;e1;e1;e1;e11"), -5);
        due("the eighth is refused", y.faultPosition(), 21);
        due("20 entries and ;", readText(y, "e1;e1;e1;e1;e1;e1;e1;e1;e1;e1;e1;e1;e1;e1;e1;e1;e1;e1;e1;e1;"), -2);
        due("too early", y.faultPosition(), 60);
    }

    private static void promise13FaultPosition() {
        promise = 13;
        String[] texts = {"", "x", "E1", "e", "e;", "e1,", "e1x", "e1;", "e1;;", "e123456", "e1234567", "e-1", "c", "c1",
            "c1,", "c1;", "c1,2", "c1,2,", "c1,2;", "c1,,2", "c1,2,3,", "c1,2,3x", "c1,2,1234567", "c1234567,",
            "r", "r1", "r1=", "r=1", "r1,", "r1=1=", "r1=1000000", "r1234567=", "e1;r0=1;q", "1", ";e1"};
        int[] faults = {0, 0, 0, 1, 1, 2, 2, 3, 3, 0, 7, 1, 1, 2,
            3, 2, 4, 5, 4, 3, 6, 6, 11, 7,
            1, 2, 3, 1, 2, 4, 9, 7, 8, 0, 0};
        LayeredClaims x = new LayeredClaims();
        due("none was read", x.faultPosition(), -4);
        for (int i = 0; i < texts.length; i++) {
            int answer = readText(x, texts[i]);
            due("read " + texts[i], answer, texts[i].equals("e123456") ? -5 : -2);
            due("faultPosition of " + texts[i], x.faultPosition(), faults[i]);
        }
        due("refused", readText(x, "e9;e10;c0,0,1;e11"), -5);
        due("faultPosition", x.faultPosition(), 7);
        x.append('e');
        x.undo();
        x.addEvent(5);
        due("faultPosition stays", x.faultPosition(), 7);
        due("good", readText(x, "12"), 1);
        due("no fault", x.faultPosition(), -4);
    }

    private static void promise14Undo() {
        promise = 14;
        LayeredClaims x = new LayeredClaims();
        due("undo of nothing", x.undo(), -4);
        for (int i = 1; i <= 7; i++) {
            x.addEvent(i);
        }
        x.addEvent(365);
        x.append('e');
        for (int i = 5; i >= 0; i--) {
            due("undo", x.undo(), i);
            due("events", x.count(2), i + 1);
        }
        due("undo no more", x.undo(), -4);
        due("events", x.count(2), 1);
        due("the text stays", x.count(4), 1);
        x.addCover(9, 9, 9, 0);
        x.setDay(0, 1);
        x.setIndex(0);
        due("undo of what changed nothing", x.undo(), 2);
        due("undo", x.undo(), 1);
        due("undo", x.undo(), 0);
        due("covers", x.count(0), 0);
        eachChangeIsUndone();
        eachUndoBringsAllBack();
    }

    private static void eachChangeIsUndone() {
        LayeredClaims x = desk();
        x.file(0, 0, 0, 1);
        x.file(1, 0, 1, 1);
        x.addCover(3, 4, 5, 1);
        x.addLayer(5000, 7, 6, 2);
        x.addEvent(364);
        x.addClaim(3, 3, 44);
        due("undo addClaim", x.undo(), 5);
        due("claims", x.count(3), 6);
        x.undo();
        due("events", x.count(2), 3);
        x.undo();
        due("layers", x.count(1), 2);
        x.undo();
        due("covers", x.count(0), 3);
        x.removeClaim(1);
        x.setDay(0, 3);
        x.setDeductible(1, 9);
        x.setIndex(8);
        x.setRecovery(2, 7);
        readText(x, "e8;r2=6");
        due("undo read", x.undo(), 5);
        due("recovery", x.event(2, 1), 7);
        due("events", x.count(2), 3);
        x.undo();
        due("recovery", x.event(2, 1), 0);
        x.undo();
        due("index", x.count(5), 0);
        x.undo();
        due("deductible", x.deductible(1), 0);
        x.undo();
        due("day", x.event(0, 0), 100);
        due("undo removeClaim", x.undo(), 0);
        due("amount", x.claim(1, 2), 500);
        due("amount", x.claim(2, 2), 1500);
        x.use(0, 0);
        due("undo use", x.undo(), 0);
        due("covers", x.count(0), 3);
        x.file(2, 0, 0, 0);
        x.save();
        due("no changes", x.undo(), -4);
        due("the tray stays", x.filed(2, 0), 0);
    }

    private static void eachUndoBringsAllBack() {
        int[][] changes = {{1, 2, 3, 1}, {9000, 8, 7, 3}, {200}, {1, 2, 77}, {2}, {1, 300}, {2, 9}, {66}, {0, 55}};
        for (int late = 0; late < 8; late++) {
            for (int i = 0; i < 11; i++) {
                LayeredClaims x = desk();
                x.file(2, 2, 0, 1);
                for (int j = 0; j < late; j++) {
                    x.setIndex(j);
                }
                String before = fingerprint(x);
                due("change " + i, Math.min(0, change(x, i, i < 9 ? changes[i] : null)), 0);
                due("is a change", fingerprint(x).equals(before) ? 1 : 0, 0);
                due("undo", x.undo(), 5);
                dueSame("undo of change " + i, x, before);
            }
        }
    }

    private static int change(LayeredClaims x, int kind, int[] a) {
        switch (kind) {
            case 0: return x.addCover(a[0], a[1], a[2], a[3]);
            case 1: return x.addLayer(a[0], a[1], a[2], a[3]);
            case 2: return x.addEvent(a[0]);
            case 3: return x.addClaim(a[0], a[1], a[2]);
            case 4: return x.removeClaim(a[0]);
            case 5: return x.setDay(a[0], a[1]);
            case 6: return x.setDeductible(a[0], a[1]);
            case 7: return x.setIndex(a[0]);
            case 8: return x.setRecovery(a[0], a[1]);
            case 9: return readText(x, "e44;c3,1,99;r3=5");
            default: return x.use(2, 2);
        }
    }

    private static void promise15Count() {
        promise = 15;
        LayeredClaims x = desk();
        write(x, "abcdefg");
        x.setIndex(42);
        int[] counts = {3, 2, 3, 6, 7, 42};
        for (int what = 0; what < 6; what++) {
            due("count " + what, x.count(what), counts[what]);
        }
        due("count -1", x.count(-1), -2);
        due("count 6", x.count(6), -2);
    }

    private static void promise16Cover() {
        promise = 16;
        LayeredClaims x = desk();
        int[][] numbers = {{1000, 1500, 400, 0, 1480, 20}, {2000, 9000, 600, 0, 1320, 7680}, {500, 500, 50, 2, 500, 0}};
        for (int cover = 0; cover < 3; cover++) {
            for (int what = 0; what < 6; what++) {
                due("cover " + cover + " " + what, x.cover(cover, what), numbers[cover][what]);
            }
        }
        x.setDeductible(0, 200);
        // 700 on day 50, 920 on day 100, but 800 are left, so that nothing is left for event 2.
        due("cover 0 4", x.cover(0, 4), 1500);
        due("cover 0 5", x.cover(0, 5), 0);
        due("cover no", x.cover(3, 9), -1);
        due("cover -1", x.cover(-1, 0), -1);
        due("cover what", x.cover(0, -1), -2);
        due("cover what", x.cover(2, 6), -2);
    }

    private static void promise17Layer() {
        promise = 17;
        LayeredClaims x = desk();
        int[][] numbers = {{500, 1000, 300, 1, 1100, 900, 1000, 300}, {1500, 800, 100, 0, 700, 100, 0, 0}};
        for (int layer = 0; layer < 2; layer++) {
            for (int what = 0; what < 8; what++) {
                due("layer " + layer + " " + what, x.layer(layer, what), numbers[layer][what]);
            }
        }
        due("layer no", x.layer(2, 9), -1);
        due("layer -1", x.layer(-1, 0), -1);
        due("layer what", x.layer(0, -1), -2);
        due("layer what", x.layer(1, 8), -2);
        LayeredClaims y = new LayeredClaims();
        y.addCover(99999, 99999, 0, 0);
        y.addLayer(0, 70, 99999, 2);
        for (int i = 0; i < 4; i++) {
            y.addEvent(i);
            y.addClaim(i, 0, 60 + i);
        }
        // The capacity of 210 bears 60, 61, 62 and 27.
        due("borne of the last", y.borne(3, 0), 27);
        due("retained of the last", y.event(3, 6), 36);
        due("borne", y.layer(0, 4), 210);
        due("capacity left", y.layer(0, 5), 0);
        due("reinstated", y.layer(0, 6), 140);
        due("reinstatement premium", y.layer(0, 7), 199998);
        y.removeClaim(3);
        due("borne", y.layer(0, 4), 183);
        due("reinstated", y.layer(0, 6), 140);
        y.removeClaim(2);
        due("reinstated", y.layer(0, 6), 121);
        due("rounded down", y.layer(0, 7), 172855);
    }

    private static void promise18Deductible() {
        promise = 18;
        LayeredClaims x = desk();
        x.setDeductible(2, 99999);
        due("deductible", x.deductible(0), 300);
        due("deductible", x.deductible(1), 0);
        due("deductible", x.deductible(2), 99999);
        due("deductible", x.deductible(-1), -1);
        due("deductible", x.deductible(3), -1);
    }

    private static void promise19Event() {
        promise = 19;
        LayeredClaims x = desk();
        x.setRecovery(0, 650);
        int[][] numbers = {{100, 650, 3, 2700, 2200, 1550, 500, 1}, {50, 0, 1, 900, 600, 600, 500, 0},
            {100, 0, 2, 800, 500, 500, 500, 2}};
        for (int event = 0; event < 3; event++) {
            for (int what = 0; what < 8; what++) {
                due("event " + event + " " + what, x.event(event, what), numbers[event][what]);
            }
        }
        due("event no", x.event(3, 9), -1);
        due("event -1", x.event(-1, 0), -1);
        due("event what", x.event(0, -1), -2);
        due("event what", x.event(2, 8), -2);
        x.setRecovery(1, 601);
        due("no negative burden", x.event(1, 5), 0);
        due("nothing retained", x.event(1, 6), 0);
        x.setIndex(60);
        due("sum of the losses", x.event(1, 3), 990);
    }

    private static void promise20EventAt() {
        promise = 20;
        LayeredClaims x = desk();
        due("eventAt 0", x.eventAt(0), 1);
        due("eventAt 1", x.eventAt(1), 0);
        due("eventAt 2", x.eventAt(2), 2);
        due("eventAt 3", x.eventAt(3), -1);
        due("eventAt -1", x.eventAt(-1), -1);
        x.setDay(2, 0);
        due("eventAt 0", x.eventAt(0), 2);
        due("eventAt 2", x.eventAt(2), 0);
        due("eventAt without events", new LayeredClaims().eventAt(0), -1);
    }

    private static void promise21Claim() {
        promise = 21;
        LayeredClaims x = desk();
        x.setIndex(1);
        x.setIndex(0);
        int[][] numbers = {{0, 0, 700, 700, 513, 4}, {0, 0, 500, 500, 367, 4}, {0, 1, 1500, 1500, 1320, 5},
            {1, 0, 900, 900, 600, 5}, {2, 0, 200, 200, 0, 2}, {2, 2, 600, 600, 500, 4}};
        for (int claim = 0; claim < 6; claim++) {
            for (int what = 0; what < 6; what++) {
                due("claim " + claim + " " + what, x.claim(claim, what), numbers[claim][what]);
            }
        }
        due("claim no", x.claim(6, 9), -1);
        due("claim -1", x.claim(-1, 0), -1);
        due("claim what", x.claim(0, -1), -2);
        due("claim what", x.claim(5, 6), -2);
        reasonsInTheirOrder();
        reasonOfTheLeastDeduction();
        claimsOfEqualRemainders();
    }

    private static void reasonsInTheirOrder() {
        LayeredClaims x = new LayeredClaims();
        x.addCover(100, 250, 0, 0);
        x.addEvent(1);
        x.addEvent(2);
        x.addEvent(3);
        x.addEvent(4);
        x.addClaim(0, 0, 100);
        due("reason 0", x.claim(0, 5), 0);
        x.addClaim(1, 0, 101);
        due("reason 4", x.claim(1, 5), 4);
        x.addClaim(2, 0, 51);
        due("reason 3", x.claim(2, 5), 3);
        x.addClaim(3, 0, 51);
        due("reason 1", x.claim(3, 5), 1);
        x.setDeductible(0, 20);
        due("reason 5", x.claim(0, 5), 5);
        due("reason 4 before 5", x.claim(1, 5), 4);
        due("reason 5", x.claim(2, 5), 5);
        due("nothing is left", x.claim(3, 4), 31);
        x.setDeductible(0, 100);
        due("reason 2", x.claim(0, 5), 2);
        due("leftBefore", x.leftBefore(0, 0), 250);
        x.setDeductible(0, 0);
        x.addClaim(2, 0, 99);
        due("reason 3 before 4", x.claim(2, 5), 3);
        LayeredClaims y = new LayeredClaims();
        y.addCover(10, 10, 0, 0);
        y.addEvent(0);
        y.addClaim(0, 0, 1);
        y.addClaim(0, 0, 9999);
        due("reason 2 beside a paid claim", y.claim(0, 5), 2);
        due("paid nothing", y.claim(0, 4), 0);
        due("reason 4", y.claim(1, 5), 4);
    }

    private static void reasonOfTheLeastDeduction() {
        LayeredClaims x = new LayeredClaims();
        x.addCover(10, 10, 0, 2);
        x.setDeductible(2, 1);
        x.addEvent(0);
        x.addClaim(0, 0, 2);
        due("reason 5 by 1", x.claim(0, 5), 5);
        due("paid 1", x.claim(0, 4), 1);
    }

    private static void claimsOfEqualRemainders() {
        LayeredClaims x = new LayeredClaims();
        x.addCover(8, 99, 0, 0);
        x.addCover(99, 99, 0, 1);
        x.addEvent(0);
        x.addClaim(0, 1, 3);
        x.addClaim(0, 0, 3);
        x.addClaim(0, 0, 3);
        x.addClaim(0, 0, 3);
        // 8 by 3, 3 and 3: 2 each with the remainders 6, so the first two get 1 more.
        due("paid 1", x.claim(1, 4), 3);
        due("paid 2", x.claim(2, 4), 3);
        due("paid 3", x.claim(3, 4), 2);
        due("paid 0", x.claim(0, 4), 3);
    }

    private static void dueNoSuchPair(String call, IntSupplier[] calls) {
        for (IntSupplier each : calls) {
            due(call + " of what is not there", each, -1);
        }
    }

    private static void promise22Gross() {
        promise = 22;
        LayeredClaims x = desk();
        due("gross limited", x.gross(0, 0), 1000);
        due("gross", x.gross(0, 1), 1500);
        due("gross of no claim", x.gross(0, 2), 0);
        due("gross limited", x.gross(2, 2), 500);
        x.setIndex(60);
        due("gross grown", x.gross(1, 0), 990);
        x.setIndex(30);
        // 1.05f is less than 1.05, and so is the product.
        due("gross as a float", x.gross(1, 0), 944);
        dueNoSuchPair("gross", new IntSupplier[] {() -> x.gross(3, 0), () -> x.gross(-1, 0), () -> x.gross(0, 3),
            () -> x.gross(0, -1)});
    }

    private static void promise23Deducted() {
        promise = 23;
        LayeredClaims x = desk();
        due("deducted", x.deducted(0, 0), 120);
        due("deducted", x.deducted(0, 1), 180);
        due("deducted at most", x.deducted(2, 0), 200);
        due("deducted of another group", x.deducted(2, 2), 0);
        due("deducted of no loss", x.deducted(1, 1), 0);
        dueNoSuchPair("deducted", new IntSupplier[] {() -> x.deducted(3, 0), () -> x.deducted(-1, 0),
            () -> x.deducted(0, 3), () -> x.deducted(0, -1)});
        LayeredClaims y = new LayeredClaims();
        for (int i = 0; i < 4; i++) {
            y.addCover(100, 1000, 0, i == 1 ? 2 : 1);
        }
        y.setDeductible(1, 5);
        y.setDeductible(2, 3);
        y.addEvent(0);
        for (int i = 0; i < 4; i++) {
            y.addClaim(0, i, 10);
        }
        due("1 more", y.deducted(0, 0), 2);
        due("alone", y.deducted(0, 1), 3);
        due("1 more", y.deducted(0, 2), 2);
        due("the last", y.deducted(0, 3), 1);
        y.addClaim(0, 3, 2);
        // 5 by 10, 10 and 12: remainders 18 of 32, 18 and 28.
        due("lowest of equals", y.deducted(0, 0), 2);
        due("less", y.deducted(0, 2), 1);
        due("greatest remainder", y.deducted(0, 3), 2);
    }

    private static void promise24Paid() {
        promise = 24;
        LayeredClaims x = desk();
        due("paid", x.paid(0, 0), 880);
        due("paid", x.paid(0, 1), 1320);
        due("paid", x.paid(1, 0), 600);
        due("paid nothing", x.paid(2, 0), 0);
        due("paid", x.paid(2, 2), 500);
        x.setDeductible(0, 200);
        due("paid what is left", x.paid(0, 0), 800);
        x.setDay(0, 0);
        due("paid first", x.paid(0, 0), 920);
        due("paid what is left", x.paid(1, 0), 580);
        dueNoSuchPair("paid", new IntSupplier[] {() -> x.paid(3, 0), () -> x.paid(-1, 0), () -> x.paid(0, 3),
            () -> x.paid(0, -1)});
    }

    private static void promise25LeftBefore() {
        promise = 25;
        LayeredClaims x = desk();
        due("leftBefore", x.leftBefore(1, 0), 1500);
        due("leftBefore", x.leftBefore(0, 0), 900);
        due("leftBefore", x.leftBefore(2, 0), 20);
        due("leftBefore", x.leftBefore(2, 2), 500);
        x.setDay(2, 99);
        due("leftBefore of another day", x.leftBefore(0, 2), 0);
        dueNoSuchPair("leftBefore", new IntSupplier[] {() -> x.leftBefore(3, 0), () -> x.leftBefore(-1, 0),
            () -> x.leftBefore(0, 3), () -> x.leftBefore(0, -1)});
    }

    private static void promise26Borne() {
        promise = 26;
        LayeredClaims x = desk();
        due("borne", x.borne(0, 0), 1000);
        due("borne", x.borne(0, 1), 700);
        due("borne", x.borne(1, 0), 100);
        due("borne", x.borne(1, 1), 0);
        due("borne at the attachment", x.borne(2, 0), 0);
        x.addEvent(200);
        x.addClaim(3, 1, 2500);
        due("what is left of the capacity", x.borne(3, 1), 100);
        due("the layer above alone", x.borne(3, 0), 900);
        due("retained", x.event(3, 6), 700);
        dueNoSuchPair("borne", new IntSupplier[] {() -> x.borne(4, 0), () -> x.borne(-1, 0), () -> x.borne(0, 2),
            () -> x.borne(0, -1)});
    }

    private static void promise27Returned() {
        promise = 27;
        LayeredClaims x = desk();
        due("returned of no recovery", x.returned(0, 0), 0);
        x.setRecovery(0, 1900);
        due("returned", x.returned(0, 0), 1000);
        due("returned", x.returned(0, 1), 700);
        due("returned retained", x.returned(0, 2), 200);
        x.setRecovery(1, 50);
        due("returned by this event alone", x.returned(1, 0), 50);
        due("returned beside another", x.returned(0, 0), 1000);
        due("the recovery stays", x.event(0, 1), 1900);
        dueNoSuchPair("returned", new IntSupplier[] {() -> x.returned(3, 0), () -> x.returned(-1, 0),
            () -> x.returned(0, 3), () -> x.returned(0, -1)});
        LayeredClaims y = new LayeredClaims();
        y.addCover(100, 100, 0, 0);
        y.addEvent(0);
        y.addClaim(0, 0, 60);
        y.setRecovery(0, 100);
        due("without layers", y.returned(0, 0), 60);
        due("without layers", y.returned(0, 1), -1);
    }

    private static void promise28Place() {
        promise = 28;
        LayeredClaims x = desk();
        due("place", x.place(0), 2);
        due("place", x.place(1), 1);
        due("place", x.place(2), 0);
        due("place no", x.place(3), -1);
        due("place no", x.place(-1), -1);
        LayeredClaims y = new LayeredClaims();
        y.addCover(100, 1000, 0, 0);
        y.addLayer(0, 10, 0, 0);
        y.addLayer(20, 50, 0, 3);
        y.addEvent(0);
        y.addEvent(1);
        y.addClaim(0, 0, 15);
        y.addClaim(1, 0, 30);
        due("place", y.place(0), 1);
        due("above an empty layer", y.place(1), 2);
        due("empty", y.borne(1, 0), 0);
        y.removeClaim(1);
        y.addClaim(1, 0, 21);
        due("a part of 1", y.place(1), 2);
        y.removeClaim(1);
        y.addClaim(1, 0, 20);
        due("a part of 0", y.place(1), 0);
    }

    private static void promise29Worst() {
        promise = 29;
        LayeredClaims x = desk();
        due("worst", x.worst(), 0);
        x.setRecovery(0, 1700);
        due("worst", x.worst(), 1);
        x.setRecovery(1, 100);
        due("the first of three", x.worst(), 1);
        x.setRecovery(1, 101);
        due("the first of two", x.worst(), 0);
        x.setDay(0, 101);
        due("the first of two by days", x.worst(), 2);
        LayeredClaims y = new LayeredClaims();
        due("worst of none", y.worst(), -4);
        y.addEvent(9);
        y.addEvent(8);
        due("worst of no burden", y.worst(), 1);
    }

    private static void promise30Account() {
        promise = 30;
        LayeredClaims x = desk();
        x.setRecovery(1, 20);
        int[] amounts = {4400, 3300, 800, 3280, 1780, 1500, 1050, 700, 1100};
        for (int what = 0; what < 9; what++) {
            due("account " + what, x.account(what), amounts[what]);
        }
        due("account -1", x.account(-1), -2);
        due("account 9", x.account(9), -2);
        due("account of nothing", new LayeredClaims().account(0), 0);
    }

    private static void promise31Result() {
        promise = 31;
        LayeredClaims x = desk();
        due("result", x.result(), 1050 - 700 - 1500 + 10000000);
        x.addCover(1, 1, 99999, 0);
        due("result", x.result(), 101049 - 700 - 1500 + 10000000);
    }

    private static void promise32RatioBits() {
        promise = 32;
        LayeredClaims x = desk();
        due("ratioBits", x.ratioBits(), Float.floatToIntBits(3300.0f / 1050.0f));
        due("ratioBits of nothing", new LayeredClaims().ratioBits(), -4);
        int[][] pairs = {{1, 1}, {1, 99999}, {99999, 1}, {7, 3}, {3, 7}, {2, 1}, {1, 2}, {99998, 99999}, {0, 5}, {5, 0}};
        for (int[] pair : pairs) {
            LayeredClaims y = new LayeredClaims();
            y.addCover(99999, 99999, pair[1], 0);
            y.addEvent(0);
            if (pair[0] > 0) {
                y.addClaim(0, 0, pair[0]);
            }
            int want = pair[1] == 0 ? -4 : Float.floatToIntBits((float) pair[0] / (float) pair[1]);
            due("ratioBits " + pair[0] + " by " + pair[1], y.ratioBits(), want);
        }
    }

    private static void promise33IsBalanced() {
        promise = 33;
        LayeredClaims x = desk();
        due("isBalanced", x.isBalanced(), 1);
        x.setIndex(77);
        x.setRecovery(0, 1234);
        due("isBalanced", x.isBalanced(), 1);
        x.setDeductible(0, 99999);
        due("isBalanced", x.isBalanced(), 1);
        for (int i = 0; i < 6; i++) {
            x.removeClaim(0);
        }
        due("isBalanced", x.isBalanced(), 1);
        aFullDesk();
    }

    /** Six covers, four layers, eight events and 24 claims: each question finds its last row. */
    private static void aFullDesk() {
        LayeredClaims x = new LayeredClaims();
        for (int i = 0; i < 6; i++) {
            x.addCover(100, 250, 10, i % 3);
        }
        for (int i = 0; i < 4; i++) {
            x.addLayer(20 * i + 10, 20, 5, 3);
        }
        for (int i = 0; i < 8; i++) {
            x.addEvent(7 - i);
        }
        for (int i = 0; i < 24; i++) {
            x.addClaim(i % 8, 5, 17);
        }
        due("isBalanced", x.isBalanced(), 1);
        due("event that happens last", x.eventAt(7), 0);
        due("left before it", x.leftBefore(0, 5), 0);
        due("reason", x.claim(0, 5), 1);
        due("reason", x.claim(7, 5), 0);
        due("reason of the last paid", x.claim(3, 5), 3);
        due("sum of the losses", x.account(0), 24 * 17);
        due("paid", x.account(1), 250);
        due("borne", x.layer(3, 4), 0);
        due("borne", x.layer(1, 4), 80);
        due("borne", x.borne(7, 2), 1);
        due("returned", x.returned(7, 4), 0);
        // Four events pay 51, of which 10 are below the layers; the fifth pays 46, when the first two layers are spent.
        due("retained", x.account(5), 4 * 10 + 46);
        due("premiums", x.account(6), 60);
        due("place", x.place(7), 3);
        due("worst", x.worst(), 7);
        due("leastLimit", x.leastLimit(5), 408);
        x.setDay(7, 364);
        due("paidIf", x.paidIf(7, 0), 250);
        due("position", x.event(7, 7), 7);
        due("addClaim", x.addClaim(0, 0, 1), -3);
        String before = fingerprint(x);
        x.save();
        x.removeClaim(23);
        x.restore();
        dueSame("restore", x, before);
    }

    private static void promise34PaidIf() {
        promise = 34;
        LayeredClaims x = desk();
        due("paidIf no event", x.paidIf(3, 365), -1);
        due("paidIf no event", x.paidIf(-1, 0), -1);
        due("paidIf bad", x.paidIf(0, -1), -2);
        due("paidIf bad", x.paidIf(0, 365), -2);
        due("paidIf the same", x.paidIf(0, 100), 3300);
        x.setIndex(60);
        // Event 1 pays 990 - 300. Event 0 has 1000 and 1800, of which 107 and 193 are deducted, but 810 are left.
        due("account", x.account(1), 690 + 810 + 1607 + 500);
        // On day 0 the deductible of 300 is shared by 1000 and 1500, and then 620 are left for event 1.
        due("paidIf earlier", x.paidIf(0, 0), 880 + 1320 + 620 + 500);
        due("the day stays", x.event(0, 0), 100);
        due("account", x.account(1), 690 + 810 + 1607 + 500);
    }

    private static void promise35LeastLimit() {
        promise = 35;
        LayeredClaims x = desk();
        due("leastLimit", x.leastLimit(0), 1480);
        due("leastLimit", x.leastLimit(1), 1320);
        x.setDeductible(0, 200);
        due("leastLimit above the limit", x.leastLimit(0), 1620);
        due("leastLimit no", x.leastLimit(3), -1);
        due("leastLimit no", x.leastLimit(-1), -1);
        due("the limit stays", x.cover(0, 1), 1500);
        LayeredClaims y = new LayeredClaims();
        y.addCover(99999, 1, 0, 0);
        due("least", y.leastLimit(0), 1);
        y.addEvent(0);
        y.addEvent(0);
        y.addClaim(0, 0, 99998);
        due("leastLimit", y.leastLimit(0), 99998);
        y.addClaim(1, 0, 50000);
        due("most", y.leastLimit(0), 99999);
    }

    private static void promise36File() {
        promise = 36;
        LayeredClaims x = desk();
        int[][] noPlace = {{-1, 0}, {3, 0}, {0, -1}, {0, 4}};
        for (int[] at : noPlace) {
            due("file no place", x.file(at[0], at[1], 7, 9), -1);
        }
        due("file bad kind", x.file(0, 0, 2, 9), -2);
        due("file bad kind", x.file(0, 0, -1, 0), -2);
        due("file no cover", x.file(1, 0, 0, 3), -1);
        due("file no layer", x.file(0, 0, 1, 2), -1);
        due("file no layer", x.file(0, 0, 1, -1), -1);
        due("file unlike", x.file(0, 0, 1, 1), -6);
        due("file unlike", x.file(1, 0, 0, 2), -6);
        due("file", x.file(0, 0, 0, 2), 1);
        due("file", x.file(0, 3, 0, 1), 2);
        due("file in place of", x.file(0, 0, 0, 1), 2);
        due("file", x.file(1, 2, 1, 1), 1);
        due("file both", x.file(2, 0, 1, 0), 1);
        due("file both", x.file(2, 1, 0, 0), 2);
        due("file in place of another kind", x.file(2, 0, 0, 0), 2);
        due("filed", x.filed(2, 0), 0);
        due("file is no change", x.undo(), 5);
        due("claims", x.count(3), 5);
    }

    private static void promise37Use() {
        promise = 37;
        LayeredClaims x = desk();
        x.file(0, 0, 0, 2);
        x.file(2, 3, 1, 1);
        int[][] noPlace = {{-1, 0}, {3, 0}, {0, -1}, {0, 4}};
        for (int[] at : noPlace) {
            due("use no place", x.use(at[0], at[1]), -1);
        }
        due("use empty", x.use(1, 0), -4);
        due("use below", x.use(2, 3), -5);
        due("use cover", x.use(0, 0), 3);
        int[] numbers = {500, 500, 50, 2};
        for (int what = 0; what < 4; what++) {
            due("cover", x.cover(3, what), numbers[what]);
        }
        x.file(0, 1, 0, 0);
        x.file(0, 3, 0, 1);
        x.file(1, 0, 1, 0);
        x.use(0, 1);
        int[] others = {1000, 1500, 400, 0};
        for (int what = 0; what < 4; what++) {
            due("cover of another place", x.cover(4, what), others[what]);
        }
        x.undo();
        due("use cover", x.use(0, 0), 4);
        due("use cover", x.use(0, 0), 5);
        due("use cover full", x.use(0, 0), -3);
        LayeredClaims y = new LayeredClaims();
        y.addLayer(999999, 5, 6, 3);
        y.file(1, 1, 1, 0);
        y.undo();
        due("use layer", y.use(1, 1), 0);
        int[] layer = {999999, 5, 6, 3};
        for (int what = 0; what < 4; what++) {
            due("layer", y.layer(0, what), layer[what]);
        }
        due("use layer below", y.use(1, 1), -5);
        due("undo use", y.undo(), 0);
        for (int i = 0; i < 4; i++) {
            y.addLayer(10 * i, 10, 0, 0);
        }
        due("use layer full", y.use(1, 1), -3);
        due("layers", y.count(1), 4);
        due("no change", y.undo(), 3);
    }

    private static void promise38Filed() {
        promise = 38;
        LayeredClaims x = desk();
        x.file(0, 0, 0, 2);
        x.file(1, 3, 1, 1);
        x.file(2, 1, 1, 1);
        due("filed", x.filed(0, 0), 0);
        due("filed", x.filed(1, 3), 1);
        due("filed", x.filed(2, 1), 1);
        due("filed empty", x.filed(0, 1), -4);
        int[][] noPlace = {{-1, 0}, {3, 0}, {0, -1}, {0, 4}};
        for (int[] at : noPlace) {
            due("filed no place", x.filed(at[0], at[1]), -1);
        }
    }

    private static void promise39Save() {
        promise = 39;
        LayeredClaims x = desk();
        due("save", x.save(), 6);
        x.removeClaim(0);
        due("save again", x.save(), 5);
        due("save is no change", x.undo(), 5);
        due("claims", x.count(3), 6);
        due("the later copy", x.restore(), 5);
        due("amount", x.claim(0, 2), 500);
        due("save of nothing", new LayeredClaims().save(), 0);
    }

    private static void restoreOverOtherData() {
        LayeredClaims x = desk();
        String before = fingerprint(x);
        LayeredClaims y = new LayeredClaims();
        y.save();
        for (int i = 0; i < 2; i++) {
            y.addCover(1000 * i + 1000, 7500 * i + 1500, 200 * i + 400, 0);
        }
        y.addCover(500, 500, 50, 2);
        y.addLayer(500, 1000, 300, 1);
        y.addLayer(1500, 800, 100, 0);
        y.setDeductible(0, 300);
        readText(y, "e100;e50;e100;c0,0,700;c0,0,500;c0,1,1500;c1,0,900");
        readText(y, "c2,0,200;c2,2,600");
        dueSame("the same by texts", y, before);
        x.save();
        y.restore();
        due("restore of an empty desk", y.count(0) + y.count(1) + y.count(2) + y.count(3), 0);
        for (int i = 0; i < 6; i++) {
            x.removeClaim(0);
        }
        LayeredClaims z = new LayeredClaims();
        z.addCover(1, 2, 3, 1);
        z.addLayer(4, 5, 6, 2);
        z.addEvent(7);
        z.addClaim(0, 0, 9);
        String other = fingerprint(z);
        z.save();
        for (int i = 0; i < 4; i++) {
            z.undo();
        }
        due("all is undone", z.count(0) + z.count(1) + z.count(2) + z.count(3), 0);
        readText(z, "e8;e9");
        z.addCover(10, 20, 30, 2);
        z.addLayer(40, 50, 60, 3);
        z.addCover(11, 21, 31, 0);
        z.addClaim(1, 1, 90);
        z.restore();
        dueSame("restore over other data", z, other);
        x.restore();
        dueSame("restore", x, before);
    }

    private static void promise40Restore() {
        promise = 40;
        LayeredClaims x = desk();
        due("restore of nothing", x.restore(), -5);
        due("all is there", x.count(3), 6);
        x.setIndex(3);
        x.setRecovery(1, 4);
        x.save();
        write(x, "e1");
        x.file(0, 0, 0, 0);
        x.setIndex(5);
        x.setRecovery(1, 6);
        x.setDeductible(0, 7);
        x.setDay(1, 8);
        x.addCover(9, 9, 9, 1);
        x.addLayer(5000, 9, 9, 1);
        x.addEvent(9);
        x.addClaim(3, 3, 9);
        x.removeClaim(0);
        for (int i = 0; i < 2; i++) {
            due("restore", x.restore(), 6);
            due("undo", x.undo(), -4);
            int[] counts = {3, 2, 3, 6, 2, 3};
            for (int what = 0; what < 6; what++) {
                due("count " + what, x.count(what), counts[what]);
            }
            due("recovery", x.event(1, 1), 4);
            due("deductible", x.deductible(0), 300);
            due("day", x.event(1, 0), 50);
            due("amount", x.claim(0, 2), 700);
            due("the tray stays", x.filed(0, 0), 0);
            x.removeClaim(3);
            x.setDay(1, 77);
        }
        due("undo of later changes", x.undo(), 1);
        restoreOverOtherData();
    }
}
