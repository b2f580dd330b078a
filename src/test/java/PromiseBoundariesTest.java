/** The ranges of the arguments and the row "Returns" of each promise of ../shared/DOC.md, at their boundaries. */
public final class PromiseBoundariesTest {
    private static final Runs RUNS = new Runs();

    public static void main(String[] args) {
        promise1NewObject();
        promise2AddCover();
        promise3AddLayer();
        promise4AddEvent();
        promise5AddClaim();
        promise6RemoveClaim();
        promise7SetDay();
        promise8SetDeductible();
        promise9SetIndex();
        promise10SetRecovery();
        promise11Append();
        promise12Read();
        promise13FaultPosition();
        promise14Undo();
        promise15Count();
        promise16Cover();
        promise17Layer();
        promise18Deductible();
        promise19Event();
        promise20EventAt();
        promise21Claim();
        promises22To25Pairs();
        promise26Borne();
        promise27Returned();
        promise28Place();
        promise29Worst();
        promise30Account();
        promise31Result();
        promise32RatioBits();
        promise33IsBalanced();
        promise34PaidIf();
        promise35LeastLimit();
        promise36File();
        promise37Use();
        promise38Filed();
        promise39Save();
        promise40Restore();
        RUNS.finish();
    }

    private static void promise1NewObject() {
        RUNS.sentence("Creates a desk without covers, layers and events.");
        RUNS.desk();
        for (int what = 0; what <= 5; what++) {
            RUNS.due("count(" + what + ")", 0);
        }
        for (int what = 0; what <= 8; what++) {
            RUNS.due("account(" + what + ")", 0);
        }
        String[] noElement = {"cover(0, 0)", "layer(0, 0)", "event(0, 0)", "claim(0, 0)", "eventAt(0)", "gross(0, 0)",
            "deducted(0, 0)", "paid(0, 0)", "leftBefore(0, 0)", "borne(0, 0)", "returned(0, 0)", "place(0)",
            "paidIf(0, 0)", "leastLimit(0)", "removeClaim(0)", "addClaim(0, 0, 1)", "setDay(0, 0)", "setRecovery(0, 0)",
            "file(0, 0, 0, 0)", "file(1, 0, 1, 0)"};
        for (String call : noElement) {
            RUNS.due(call, Runs.NO_SUCH_ELEMENT);
        }
        RUNS.due("worst()", Runs.NONE);
        RUNS.due("ratioBits()", Runs.NONE);
        RUNS.due("faultPosition()", Runs.NONE);
        RUNS.due("undo()", Runs.NONE);
        RUNS.due("filed(0, 0)", Runs.NONE);
        RUNS.due("use(0, 0)", Runs.NONE);
        RUNS.due("result()", 10000000);
        RUNS.due("isBalanced()", 1);
        RUNS.due("read()", Runs.BAD_VALUE);
        RUNS.due("restore()", Runs.STATE);
        RUNS.due("save()", 0);
        RUNS.due("restore()", 0);
    }

    private static void promise2AddCover() {
        RUNS.sentence("Returns the number of the cover; BAD_VALUE (checked first); FULL if there are 6 covers.");
        RUNS.desk();
        RUNS.due("addCover(1, 1, 0, 0)", 0);
        RUNS.due("addCover(99999, 99999, 99999, 2)", 1);
        for (int i = 2; i < 6; i++) {
            RUNS.dueBeside("addCover($, 1, 0, 0)", 0, 100000, Runs.BAD_VALUE);
            RUNS.due("addCover(2, 2, 2, 1)", i);
        }
        RUNS.due("addCover(1, 1, 0, 0)", Runs.FULL);
        RUNS.due("addCover(99999, 99999, 99999, 2)", Runs.FULL);
        RUNS.dueBeside("addCover($, 1, 0, 0)", 0, 100000, Runs.BAD_VALUE);
        RUNS.dueBeside("addCover(1, $, 0, 0)", 0, 100000, Runs.BAD_VALUE);
        RUNS.dueBeside("addCover(1, 1, $, 0)", -1, 100000, Runs.BAD_VALUE);
        RUNS.dueBeside("addCover(1, 1, 0, $)", -1, 3, Runs.BAD_VALUE);
        RUNS.due("count(0)", 6);
    }

    private static void promise3AddLayer() {
        RUNS.sentence("Returns the number of the layer; BAD_VALUE if an argument is out of range (checked first); STATE if "
            + "it would begin below the end of the layer before (checked second); FULL if there are 4 layers.");
        RUNS.desk();
        RUNS.due("addLayer(0, 1, 0, 0)", 0);
        RUNS.due("addLayer(1, 99999, 99999, 3)", 1);
        RUNS.due("addLayer(99999, 1, 0, 0)", Runs.STATE);
        dueBadLayers(99999);
        dueBadLayers(100000);
        RUNS.due("addLayer(100000, 1, 0, 0)", 2);
        RUNS.due("addLayer(999998, 1, 0, 0)", 3);
        RUNS.due("addLayer(999998, 1, 0, 0)", Runs.STATE);
        RUNS.due("addLayer(0, 1, 0, 0)", Runs.STATE);
        RUNS.due("addLayer(999999, 1, 0, 0)", Runs.FULL);
        dueBadLayers(999998);
        dueBadLayers(999999);
        RUNS.due("count(1)", 4);
    }

    private static void dueBadLayers(int attachment) {
        RUNS.dueBeside("addLayer($, 1, 0, 0)", -1, 1000000, Runs.BAD_VALUE);
        RUNS.dueBeside("addLayer(" + attachment + ", $, 0, 0)", 0, 100000, Runs.BAD_VALUE);
        RUNS.dueBeside("addLayer(" + attachment + ", 1, $, 0)", -1, 100000, Runs.BAD_VALUE);
        RUNS.dueBeside("addLayer(" + attachment + ", 1, 0, $)", -1, 4, Runs.BAD_VALUE);
    }

    private static void promise4AddEvent() {
        RUNS.sentence("Returns the number of the event; BAD_VALUE (checked first); FULL if there are 8 events.");
        RUNS.desk();
        for (int i = 0; i < 8; i++) {
            RUNS.dueBeside("addEvent($)", -1, 365, Runs.BAD_VALUE);
            RUNS.due("addEvent(" + (i % 2 == 0 ? 0 : 364) + ")", i);
        }
        RUNS.due("addEvent(0)", Runs.FULL);
        RUNS.due("addEvent(364)", Runs.FULL);
        RUNS.dueBeside("addEvent($)", -1, 365, Runs.BAD_VALUE);
        RUNS.due("count(2)", 8);
    }

    private static void promise5AddClaim() {
        RUNS.sentence("Returns the number of the claim; NO_SUCH_ELEMENT if there is no such event or cover (checked first); "
            + "BAD_VALUE if the amount is out of range (checked second); FULL if there are 24 claims.");
        RUNS.desk("addEvent(0)");
        RUNS.due("addClaim(0, 0, 1)", Runs.NO_SUCH_ELEMENT);
        RUNS.desk("addCover(1, 1, 0, 0)");
        RUNS.due("addClaim(0, 0, 1)", Runs.NO_SUCH_ELEMENT);
        RUNS.make("addEvent(0)", "addEvent(0)", "addCover(1, 1, 0, 0)", "addCover(1, 1, 0, 0)");
        RUNS.due("addClaim(0, 0, 1)", 0);
        RUNS.due("addClaim(1, 2, 99999)", 1);
        dueBadClaims();
        for (int i = 2; i < 24; i++) {
            RUNS.due("addClaim(0, 1, 5)", i);
        }
        RUNS.due("addClaim(0, 1, 1)", Runs.FULL);
        RUNS.due("addClaim(1, 2, 99999)", Runs.FULL);
        dueBadClaims();
        RUNS.due("count(3)", 24);
    }

    private static void dueBadClaims() {
        RUNS.dueBeside("addClaim($, 0, 1)", -1, 2, Runs.NO_SUCH_ELEMENT);
        RUNS.dueBeside("addClaim(0, $, 1)", -1, 3, Runs.NO_SUCH_ELEMENT);
        RUNS.dueBeside("addClaim($, 0, 0)", -1, 2, Runs.NO_SUCH_ELEMENT);
        RUNS.dueBeside("addClaim(0, $, 100000)", -1, 3, Runs.NO_SUCH_ELEMENT);
        RUNS.dueBeside("addClaim(0, 0, $)", 0, 100000, Runs.BAD_VALUE);
    }

    private static void promise6RemoveClaim() {
        RUNS.sentence("Removes a claim. The numbers of the later ones decrease by 1.");
        for (int removed = 0; removed < 24; removed += 23) {
            fullOfClaims();
            RUNS.due("removeClaim(" + removed + ")", 23);
            for (int i = 0; i < 23; i++) {
                int amount = i < removed ? i + 1 : i + 2;
                RUNS.due("claim(" + i + ", 0)", amount % 3);
                RUNS.due("claim(" + i + ", 1)", amount % 2);
                RUNS.due("claim(" + i + ", 2)", amount);
            }
            RUNS.due("claim(23, 2)", Runs.NO_SUCH_ELEMENT);
        }
        RUNS.sentence("Returns the number of claims that remain; NO_SUCH_ELEMENT.");
        RUNS.desk();
        RUNS.dueBeside("removeClaim($)", -1, 0, Runs.NO_SUCH_ELEMENT);
        fullOfClaims();
        for (int left = 23; left >= 0; left--) {
            RUNS.dueBeside("removeClaim($)", -1, left + 1, Runs.NO_SUCH_ELEMENT);
            RUNS.due("removeClaim(" + left / 2 + ")", left);
            RUNS.due("count(3)", left);
        }
        RUNS.dueBeside("removeClaim($)", -1, 0, Runs.NO_SUCH_ELEMENT);
        RUNS.due("undo()", 5);
        RUNS.due("count(3)", 1);
    }

    /** Claims of the amounts 1 to 24; event and cover follow from the amount. */
    private static void fullOfClaims() {
        RUNS.desk("addCover(9, 9, 0, 0)", "addCover(9, 9, 0, 0)", "addEvent(0)", "addEvent(0)", "addEvent(0)");
        for (int amount = 1; amount <= 24; amount++) {
            RUNS.make("addClaim(" + amount % 3 + ", " + amount % 2 + ", " + amount + ")");
        }
    }

    private static void promise7SetDay() {
        RUNS.sentence("Sets the day of an event.");
        fullOfEvents();
        RUNS.due("setDay(0, 364)", 0);
        RUNS.due("setDay(7, 0)", 7);
        RUNS.due("event(0, 0)", 364);
        RUNS.due("event(7, 0)", 0);
        RUNS.due("event(1, 0)", 1);
        RUNS.due("event(6, 0)", 6);
        RUNS.sentence("Returns the previous day; NO_SUCH_ELEMENT (checked first); BAD_VALUE.");
        RUNS.due("setDay(0, 0)", 364);
        RUNS.due("setDay(0, 0)", 0);
        RUNS.dueBeside("setDay($, 0)", -1, 8, Runs.NO_SUCH_ELEMENT);
        RUNS.dueBeside("setDay($, -1)", -1, 8, Runs.NO_SUCH_ELEMENT);
        RUNS.dueBeside("setDay($, 365)", -1, 8, Runs.NO_SUCH_ELEMENT);
        RUNS.dueBeside("setDay(7, $)", -1, 365, Runs.BAD_VALUE);
        RUNS.due("event(7, 0)", 0);
        RUNS.desk();
        RUNS.due("setDay(0, 0)", Runs.NO_SUCH_ELEMENT);
        RUNS.due("setDay(0, 365)", Runs.NO_SUCH_ELEMENT);
    }

    /** Eight events on the days 0 to 7. */
    private static void fullOfEvents() {
        RUNS.desk();
        for (int i = 0; i < 8; i++) {
            RUNS.make("addEvent(" + i + ")");
        }
    }

    private static void promise8SetDeductible() {
        RUNS.sentence("Sets the deductible of a group.");
        RUNS.desk();
        RUNS.due("setDeductible(0, 99999)", 0);
        RUNS.due("setDeductible(2, 1)", 0);
        RUNS.due("deductible(0)", 99999);
        RUNS.due("deductible(1)", 0);
        RUNS.due("deductible(2)", 1);
        RUNS.sentence("Returns the previous deductible; NO_SUCH_ELEMENT (checked first); BAD_VALUE.");
        RUNS.due("setDeductible(0, 0)", 99999);
        RUNS.due("setDeductible(0, 0)", 0);
        RUNS.dueBeside("setDeductible($, 0)", -1, 3, Runs.NO_SUCH_ELEMENT);
        RUNS.dueBeside("setDeductible($, -1)", -1, 3, Runs.NO_SUCH_ELEMENT);
        RUNS.dueBeside("setDeductible($, 100000)", -1, 3, Runs.NO_SUCH_ELEMENT);
        for (int group = 0; group < 3; group++) {
            RUNS.dueBeside("setDeductible(" + group + ", $)", -1, 100000, Runs.BAD_VALUE);
        }
        RUNS.due("deductible(2)", 1);
    }

    private static void promise9SetIndex() {
        RUNS.sentence("Returns the previous rate; BAD_VALUE.");
        RUNS.desk();
        RUNS.due("setIndex(100)", 0);
        RUNS.due("setIndex(100)", 100);
        RUNS.dueBeside("setIndex($)", -1, 101, Runs.BAD_VALUE);
        RUNS.due("count(5)", 100);
        RUNS.due("setIndex(0)", 100);
        RUNS.due("setIndex(1)", 0);
        RUNS.due("count(5)", 1);
    }

    private static void promise10SetRecovery() {
        RUNS.sentence("Returns the previous recovery; NO_SUCH_ELEMENT (checked first); BAD_VALUE.");
        fullOfEvents();
        RUNS.due("setRecovery(7, 999999)", 0);
        RUNS.due("setRecovery(7, 999999)", 999999);
        RUNS.due("setRecovery(0, 1)", 0);
        RUNS.due("setRecovery(0, 0)", 1);
        RUNS.dueBeside("setRecovery($, 0)", -1, 8, Runs.NO_SUCH_ELEMENT);
        RUNS.dueBeside("setRecovery($, -1)", -1, 8, Runs.NO_SUCH_ELEMENT);
        RUNS.dueBeside("setRecovery($, 1000000)", -1, 8, Runs.NO_SUCH_ELEMENT);
        RUNS.dueBeside("setRecovery(7, $)", -1, 1000000, Runs.BAD_VALUE);
        RUNS.due("event(7, 1)", 999999);
        RUNS.due("event(6, 1)", 0);
        RUNS.desk();
        RUNS.due("setRecovery(0, 0)", Runs.NO_SUCH_ELEMENT);
        RUNS.due("setRecovery(0, -1)", Runs.NO_SUCH_ELEMENT);
    }

    private static void promise11Append() {
        RUNS.sentence("Appends up to four characters to the text: the bytes of an int from the most significant one to "
            + "the least significant one, where bytes that are 0 are skipped.");
        RUNS.desk();
        RUNS.due("append(0)", 0);
        RUNS.due("append(" + ('e' << 24) + ")", 1);
        RUNS.due("append(" + ('1' << 24 | '2') + ")", 3);
        RUNS.due("append(" + (';' << 16 | 'e' << 8) + ")", 5);
        RUNS.due("append(" + (int) '3' + ")", 6);
        RUNS.due("append(" + (';' << 24 | 'e' << 16 | '4' << 8 | '5') + ")", 10);
        RUNS.due("read()", 3);
        RUNS.due("event(0, 0)", 12);
        RUNS.due("event(1, 0)", 3);
        RUNS.due("event(2, 0)", 45);
        RUNS.sentence("Returns the length of the text; BAD_VALUE if a byte that is not 0 is not from 33 to 126 (checked "
            + "first); FULL if it would have more than 60 characters.");
        appendEachByte();
        appendToTheEnd();
    }

    private static void appendEachByte() {
        RUNS.desk();
        int[] bad = {1, 31, 32, 127, 128, 161, 254, 255};
        for (int shift = 0; shift <= 24; shift += 8) {
            RUNS.due("append(" + (33 << shift) + ")", shift / 8 + 1);
            for (int sign : bad) {
                RUNS.due("append(" + (sign << shift) + ")", Runs.BAD_VALUE);
                // Beside good ones.
                int others = 0x41414141 & ~(255 << shift);
                RUNS.due("append(" + (sign << shift | others) + ")", Runs.BAD_VALUE);
            }
        }
        for (int shift = 0; shift <= 24; shift += 8) {
            RUNS.due("append(" + (126 << shift) + ")", shift / 8 + 5);
        }
        RUNS.due("append(-1)", Runs.BAD_VALUE);
        RUNS.due("append(-2147483648)", Runs.BAD_VALUE);
        RUNS.due("append(2147483647)", Runs.BAD_VALUE);
        RUNS.due("count(4)", 8);
    }

    private static void appendToTheEnd() {
        int four = 0x41414141;
        for (int added = 1; added <= 4; added++) {
            for (int room = 0; room <= 4; room++) {
                RUNS.desk();
                for (int i = 0; i < 14; i++) {
                    RUNS.due("append(" + four + ")", 4 * i + 4);
                }
                RUNS.due("append(" + (int) (four & (1L << 8 * (4 - room)) - 1) + ")", 60 - room);
                boolean hasRoom = added <= room;
                RUNS.due("append(" + (int) (four & (1L << 8 * added) - 1) + ")", hasRoom ? 60 - room + added : Runs.FULL);
                RUNS.due("count(4)", hasRoom ? 60 - room + added : 60 - room);
                RUNS.due("append(0)", hasRoom ? 60 - room + added : 60 - room);
            }
        }
        RUNS.desk();
        for (int i = 0; i < 15; i++) {
            RUNS.make("append(" + four + ")");
        }
        RUNS.due("append(65)", Runs.FULL);
        RUNS.due("append(32)", Runs.BAD_VALUE);
        RUNS.due("append(" + (65 << 24 | 127) + ")", Runs.BAD_VALUE);
        RUNS.due("append(0)", 60);
        RUNS.due("read()", Runs.BAD_VALUE);
        RUNS.due("append(65)", 1);
    }

    private static void promise12Read() {
        RUNS.sentence("The text is empty afterwards in any case.");
        RUNS.desk();
        RUNS.dueRead("e1", 1);
        RUNS.due("count(4)", 0);
        RUNS.dueRead("e365", Runs.STATE);
        RUNS.due("count(4)", 0);
        RUNS.dueRead("e", Runs.BAD_VALUE);
        RUNS.due("count(4)", 0);
        RUNS.dueRead("", Runs.BAD_VALUE);
        RUNS.due("count(4)", 0);
        RUNS.write("e2");
        RUNS.due("count(4)", 2);
        RUNS.due("read()", 1);
        RUNS.due("read()", Runs.BAD_VALUE);
        RUNS.sentence("If an entry is refused, none of them is made.");
        RUNS.desk("addCover(9, 9, 0, 0)", "addEvent(3)", "addClaim(0, 0, 4)", "setRecovery(0, 5)");
        RUNS.dueRead("e1;r0=8;r1=9;c0,0,7;c1,0,2;e365", Runs.STATE);
        RUNS.due("count(2)", 1);
        RUNS.due("count(3)", 1);
        RUNS.due("event(0, 1)", 5);
        RUNS.due("claim(0, 2)", 4);
        RUNS.due("undo()", 3);
        RUNS.due("event(0, 1)", 0);
        RUNS.sentence("Returns the number of entries; BAD_VALUE if the text has a fault (checked first); STATE if an entry "
            + "is refused.");
        RUNS.dueRead("r0=1", 1);
        RUNS.dueRead("r0=1;r0=2;r0=3;r0=4;r0=5;r0=6;r0=7;r0=8;r0=9;r0=10;r0=11", 11);
        RUNS.dueRead("e365;", Runs.BAD_VALUE);
        RUNS.dueRead("e365;x", Runs.BAD_VALUE);
        RUNS.dueRead("x;e365", Runs.BAD_VALUE);
        RUNS.dueRead("e365;e1", Runs.STATE);
        RUNS.dueRead("e1;e365", Runs.STATE);
        RUNS.dueRead("e1;x", Runs.BAD_VALUE);
        RUNS.due("count(2)", 1);
        RUNS.due("event(0, 1)", 11);
    }

    private static void promise13FaultPosition() {
        RUNS.sentence("Returns the fault position of the text that was read most recently, or the index of the first "
            + "character of the first entry that was refused.");
        RUNS.desk();
        RUNS.dueFault("e1;", Runs.BAD_VALUE, 3);
        RUNS.dueFault("x", Runs.BAD_VALUE, 0);
        RUNS.dueFault("e365", Runs.STATE, 0);
        RUNS.dueFault("e000001;e000365", Runs.STATE, 8);
        RUNS.dueFault("e1;e365;r9=1", Runs.STATE, 3);
        RUNS.make("append(101)", "addEvent(1)", "save()", "restore()", "count(4)");
        RUNS.due("undo()", Runs.NONE);
        RUNS.due("addEvent(365)", Runs.BAD_VALUE);
        RUNS.due("faultPosition()", 3);
        RUNS.due("faultPosition()", 3);
        RUNS.sentence("Returns the index; NONE if that text had no fault and no entry was refused, or none was read.");
        RUNS.dueFault("364", 1, Runs.NONE);
        RUNS.dueFault("x", Runs.BAD_VALUE, 0);
        RUNS.dueFault("e1", 1, Runs.NONE);
        RUNS.desk("addEvent(0)", "append(101)");
        RUNS.due("faultPosition()", Runs.NONE);
    }

    private static void promise14Undo() {
        RUNS.sentence("Undoes the latest change that was not undone. The text stays.");
        RUNS.desk("setIndex(1)", "append(101)", "setIndex(2)", "setIndex(3)", "undo()");
        RUNS.due("count(5)", 2);
        RUNS.due("count(4)", 1);
        RUNS.make("undo()");
        RUNS.due("count(5)", 1);
        RUNS.make("setIndex(4)", "undo()");
        RUNS.due("count(5)", 1);
        RUNS.due("append(49)", 2);
        RUNS.due("read()", 1);
        RUNS.make("undo()");
        RUNS.due("count(4)", 0);
        RUNS.due("count(2)", 0);
        RUNS.sentence("Returns the number of changes that can still be undone; NONE if there is none.");
        RUNS.due("undo()", 0);
        RUNS.due("undo()", Runs.NONE);
        RUNS.due("undo()", Runs.NONE);
        RUNS.due("count(5)", 0);
        for (int i = 1; i <= 7; i++) {
            RUNS.make("setIndex(" + i + ")");
        }
        for (int left = 5; left >= 0; left--) {
            RUNS.due("undo()", left);
        }
        RUNS.due("undo()", Runs.NONE);
        RUNS.due("count(5)", 1);
        fullDesk();
        RUNS.make("setRecovery(7, 5)", "setDay(7, 99)", "setRecovery(7, 6)", "removeClaim(23)", "addClaim(0, 0, 99)",
            "undo()", "undo()", "undo()");
        RUNS.due("undo()", 2);
        dueLastRows();
    }

    private static void promise15Count() {
        RUNS.sentence("0 for the covers, 1 for the layers, 2 for the events, 3 for the claims, 4 for the characters in the "
            + "text, 5 for the index rate");
        fullDesk();
        RUNS.make("setIndex(100)");
        RUNS.write("123456789012345678901234567890123456789012345678901234567890");
        int[] counts = {6, 4, 8, 24, 60, 100};
        for (int what = 0; what <= 5; what++) {
            RUNS.due("count(" + what + ")", counts[what]);
        }
        RUNS.sentence("Returns the count; BAD_VALUE.");
        RUNS.dueBeside("count($)", -1, 6, Runs.BAD_VALUE);
        RUNS.desk();
        RUNS.dueBeside("count($)", -1, 6, Runs.BAD_VALUE);
    }

    /**
     * Six covers, four layers, eight events on the days 0 to 7, and 24 claims: of each event e one of 50 of cover 5,
     * one of e + 1 of cover 0 and one of 30 of cover 1, of which 20 are paid. Cover 5 pays 50 for six events, and 33.
     */
    private static void fullDesk() {
        fullOfEvents();
        RUNS.make("addCover(100, 1000, 1, 0)", "addCover(20, 1000, 2, 1)", "addCover(1, 1, 3, 2)", "addCover(1, 1, 4, 0)",
            "addCover(1, 1, 5, 1)", "addCover(100, 333, 6, 2)");
        RUNS.make("addLayer(10, 10, 100, 0)", "addLayer(30, 12, 200, 1)", "addLayer(45, 14, 300, 3)",
            "addLayer(71, 10, 400, 3)");
        for (int i = 0; i < 8; i++) {
            RUNS.make("addClaim(" + i + ", 5, 50)", "addClaim(" + i + ", 0, " + (i + 1) + ")",
                "addClaim(" + i + ", 1, 30)");
        }
    }

    private static void promise16Cover() {
        RUNS.sentence("0 for the event limit, 1 for the year limit, 2 for the premium, 3 for the group, 4 for what it pays "
            + "in the year, 5 for what is left of its year limit behind all events");
        fullDesk();
        int[][] numbers = {{100, 1000, 1, 0, 36, 964}, {20, 1000, 2, 1, 160, 840}, {1, 1, 3, 2, 0, 1}, {1, 1, 4, 0, 0, 1},
            {1, 1, 5, 1, 0, 1}, {100, 333, 6, 2, 333, 0}};
        for (int cover = 0; cover < 6; cover++) {
            for (int what = 0; what <= 5; what++) {
                RUNS.due("cover(" + cover + ", " + what + ")", numbers[cover][what]);
            }
        }
        RUNS.sentence("Returns the number; NO_SUCH_ELEMENT (checked first); BAD_VALUE.");
        for (int what = -1; what <= 6; what++) {
            RUNS.dueBeside("cover($, " + what + ")", -1, 6, Runs.NO_SUCH_ELEMENT);
        }
        RUNS.dueBeside("cover(0, $)", -1, 6, Runs.BAD_VALUE);
        RUNS.dueBeside("cover(5, $)", -1, 6, Runs.BAD_VALUE);
        // No cover pays anything without events.
        RUNS.desk("addCover(5, 7, 0, 0)");
        RUNS.due("cover(0, 4)", 0);
        RUNS.due("cover(0, 5)", 7);
        RUNS.dueBeside("cover($, 0)", -1, 1, Runs.NO_SUCH_ELEMENT);
    }

    private static void promise17Layer() {
        RUNS.sentence("0 for the attachment, 1 for the limit, 2 for the premium, 3 for the number of reinstatements, 4 for "
            + "what it bears in the year, 5 for what is left of its capacity, 6 for the reinstated amount, 7 for the "
            + "reinstatement premium");
        fullDesk();
        // The burdens are 71 to 76 for six events, then 33 + 7 + 20 and 28; the last layer bears 0 to 5 of the first.
        int[][] numbers = {{10, 10, 100, 0, 10, 0, 0, 0}, {30, 12, 200, 1, 24, 0, 12, 200},
            {45, 14, 300, 3, 56, 0, 42, 900}, {71, 10, 400, 3, 15, 25, 15, 600}};
        for (int layer = 0; layer < 4; layer++) {
            for (int what = 0; what <= 7; what++) {
                RUNS.due("layer(" + layer + ", " + what + ")", numbers[layer][what]);
            }
        }
        RUNS.sentence("Returns the number; NO_SUCH_ELEMENT (checked first); BAD_VALUE.");
        for (int what = -1; what <= 8; what++) {
            RUNS.dueBeside("layer($, " + what + ")", -1, 4, Runs.NO_SUCH_ELEMENT);
        }
        RUNS.dueBeside("layer(0, $)", -1, 8, Runs.BAD_VALUE);
        RUNS.dueBeside("layer(3, $)", -1, 8, Runs.BAD_VALUE);
        RUNS.desk("addLayer(0, 9, 9, 2)");
        int[] unborne = {0, 9, 9, 2, 0, 27, 0, 0};
        for (int what = 0; what <= 7; what++) {
            RUNS.due("layer(0, " + what + ")", unborne[what]);
        }
        RUNS.dueBeside("layer($, 0)", -1, 1, Runs.NO_SUCH_ELEMENT);
    }

    private static void promise18Deductible() {
        RUNS.sentence("Returns the deductible; NO_SUCH_ELEMENT.");
        RUNS.desk("setDeductible(0, 1)", "setDeductible(1, 2)", "setDeductible(2, 99999)");
        RUNS.due("deductible(0)", 1);
        RUNS.due("deductible(1)", 2);
        RUNS.due("deductible(2)", 99999);
        RUNS.dueBeside("deductible($)", -1, 3, Runs.NO_SUCH_ELEMENT);
    }

    private static void promise19Event() {
        RUNS.sentence("0 for the day, 1 for the recovery, 2 for the number of its claims, 3 for the sum of their losses, 4 "
            + "for what all covers pay, 5 for the burden, 6 for what is retained, 7 for its position in the order in "
            + "which events happen, from 0");
        fullDesk();
        RUNS.make("setRecovery(0, 999999)", "setRecovery(7, 4)", "setDay(7, 364)", "setDay(6, 0)");
        // Event 6 takes the whole capacity of the first layer.
        int[] events = {0, 6, 1, 7};
        int[][] numbers = {{0, 999999, 3, 81, 71, 0, 0, 0}, {0, 0, 3, 87, 77, 77, 35, 1}, {1, 0, 3, 82, 72, 72, 45, 2},
            {364, 4, 3, 88, 28, 24, 24, 7}};
        for (int i = 0; i < events.length; i++) {
            for (int what = 0; what <= 7; what++) {
                RUNS.due("event(" + events[i] + ", " + what + ")", numbers[i][what]);
            }
        }
        RUNS.sentence("Returns the number; NO_SUCH_ELEMENT (checked first); BAD_VALUE.");
        for (int what = -1; what <= 8; what++) {
            RUNS.dueBeside("event($, " + what + ")", -1, 8, Runs.NO_SUCH_ELEMENT);
        }
        RUNS.dueBeside("event(0, $)", -1, 8, Runs.BAD_VALUE);
        RUNS.dueBeside("event(7, $)", -1, 8, Runs.BAD_VALUE);
        RUNS.desk("addEvent(9)");
        int[] alone = {9, 0, 0, 0, 0, 0, 0, 0};
        for (int what = 0; what <= 7; what++) {
            RUNS.due("event(0, " + what + ")", alone[what]);
        }
        RUNS.dueBeside("event($, 0)", -1, 1, Runs.NO_SUCH_ELEMENT);
    }

    private static void promise20EventAt() {
        RUNS.sentence("Returns the event; NO_SUCH_ELEMENT.");
        RUNS.desk();
        RUNS.dueBeside("eventAt($)", -1, 0, Runs.NO_SUCH_ELEMENT);
        for (int i = 0; i < 8; i++) {
            RUNS.make("addEvent(" + (364 - i) + ")");
            RUNS.due("eventAt(0)", i);
            RUNS.due("eventAt(" + i + ")", 0);
            RUNS.dueBeside("eventAt($)", -1, i + 1, Runs.NO_SUCH_ELEMENT);
        }
    }

    private static void promise21Claim() {
        RUNS.sentence("0 for the event, 1 for the cover, 2 for the amount, 3 for the loss, 4 for what is paid, 5 for the "
            + "reason");
        fullDesk();
        int[][] numbers = {{0, 5, 50, 50, 50, 0}, {0, 0, 1, 1, 1, 0}, {0, 1, 30, 30, 20, 4}, {6, 5, 50, 50, 33, 3},
            {7, 5, 50, 50, 0, 1}, {7, 0, 8, 8, 8, 0}, {7, 1, 30, 30, 20, 4}};
        int[] claims = {0, 1, 2, 18, 21, 22, 23};
        for (int i = 0; i < claims.length; i++) {
            for (int what = 0; what <= 5; what++) {
                RUNS.due("claim(" + claims[i] + ", " + what + ")", numbers[i][what]);
            }
        }
        RUNS.sentence("Returns the number; NO_SUCH_ELEMENT (checked first); BAD_VALUE.");
        for (int what = -1; what <= 6; what++) {
            RUNS.dueBeside("claim($, " + what + ")", -1, 24, Runs.NO_SUCH_ELEMENT);
        }
        RUNS.dueBeside("claim(0, $)", -1, 6, Runs.BAD_VALUE);
        RUNS.dueBeside("claim(23, $)", -1, 6, Runs.BAD_VALUE);
        RUNS.make("removeClaim(23)");
        RUNS.dueBeside("claim($, 0)", -1, 23, Runs.NO_SUCH_ELEMENT);
    }

    private static void promises22To25Pairs() {
        RUNS.sentence("Returns the gross loss; NO_SUCH_ELEMENT.");
        duePairs("gross", new int[] {50, 8, 20, 0});
        RUNS.sentence("Returns the share; NO_SUCH_ELEMENT.");
        duePairs("deducted", new int[] {2, 0, 0, 0});
        RUNS.sentence("Returns the amount; NO_SUCH_ELEMENT.");
        duePairs("paid", new int[] {0, 8, 20, 0});
        duePairs("leftBefore", new int[] {0, 972, 860, 1});
    }

    /** The answers for the last event of a full desk, with a deductible of 2, and the covers 5, 0, 1 and 2. */
    private static void duePairs(String call, int[] answers) {
        fullDesk();
        RUNS.make("setDeductible(2, 2)");
        int[] covers = {5, 0, 1, 2};
        for (int i = 0; i < covers.length; i++) {
            RUNS.due(call + "(7, " + covers[i] + ")", answers[i]);
        }
        RUNS.dueBeside(call + "($, 0)", -1, 8, Runs.NO_SUCH_ELEMENT);
        RUNS.dueBeside(call + "(0, $)", -1, 6, Runs.NO_SUCH_ELEMENT);
        RUNS.dueBeside(call + "($, 6)", -1, 8, Runs.NO_SUCH_ELEMENT);
        RUNS.desk("addEvent(0)");
        RUNS.due(call + "(0, 0)", Runs.NO_SUCH_ELEMENT);
        RUNS.desk("addCover(3, 4, 0, 0)");
        RUNS.due(call + "(0, 0)", Runs.NO_SUCH_ELEMENT);
        RUNS.make("addEvent(0)");
        RUNS.due(call + "(0, 0)", call.equals("leftBefore") ? 4 : 0);
        RUNS.dueBeside(call + "($, 0)", -1, 1, Runs.NO_SUCH_ELEMENT);
        RUNS.dueBeside(call + "(0, $)", -1, 1, Runs.NO_SUCH_ELEMENT);
    }

    private static void promise26Borne() {
        RUNS.sentence("Returns what a layer bears of an event.");
        fullDesk();
        RUNS.make("setDay(7, 0)");
        int[] parts = {0, 12, 14, 7};
        for (int layer = 0; layer < 4; layer++) {
            RUNS.due("borne(7, " + layer + ")", parts[layer]);
        }
        RUNS.due("borne(0, 0)", 10);
        RUNS.dueBeside("borne($, 0)", -1, 8, Runs.NO_SUCH_ELEMENT);
        RUNS.dueBeside("borne(0, $)", -1, 4, Runs.NO_SUCH_ELEMENT);
        RUNS.dueBeside("borne($, 4)", -1, 8, Runs.NO_SUCH_ELEMENT);
        RUNS.desk("addEvent(0)");
        RUNS.due("borne(0, 0)", Runs.NO_SUCH_ELEMENT);
        RUNS.desk("addLayer(0, 1, 0, 0)");
        RUNS.due("borne(0, 0)", Runs.NO_SUCH_ELEMENT);
    }

    private static void promise27Returned() {
        RUNS.sentence("the layer, or the number of layers for the retained part");
        fullDesk();
        RUNS.make("setRecovery(0, 71)");
        int[] parts = {10, 12, 14, 0, 35};
        for (int layer = 0; layer <= 4; layer++) {
            RUNS.due("returned(0, " + layer + ")", parts[layer]);
            RUNS.due("returned(7, " + layer + ")", 0);
        }
        RUNS.dueBeside("returned($, 0)", -1, 8, Runs.NO_SUCH_ELEMENT);
        RUNS.dueBeside("returned(0, $)", -1, 5, Runs.NO_SUCH_ELEMENT);
        RUNS.dueBeside("returned($, 5)", -1, 8, Runs.NO_SUCH_ELEMENT);
        RUNS.desk("addEvent(0)", "addCover(9, 9, 0, 0)", "addClaim(0, 0, 8)");
        RUNS.due("returned(0, 0)", 0);
        RUNS.make("setRecovery(0, 5)");
        RUNS.due("returned(0, 0)", 5);
        RUNS.make("setRecovery(0, 999999)");
        RUNS.due("returned(0, 0)", 8);
        RUNS.dueBeside("returned(0, $)", -1, 1, Runs.NO_SUCH_ELEMENT);
        RUNS.make("addLayer(0, 1, 0, 0)");
        RUNS.due("returned(0, 0)", 1);
        RUNS.due("returned(0, 1)", 7);
        RUNS.dueBeside("returned(0, $)", -1, 2, Runs.NO_SUCH_ELEMENT);
    }

    private static void promise28Place() {
        RUNS.sentence("Returns up to where the layers reach of an event: the number of the last layer that bears a part of "
            + "it, plus 1.");
        RUNS.desk("addCover(99999, 99999, 0, 0)", "addEvent(0)", "addEvent(1)", "addClaim(0, 0, 10)");
        RUNS.due("place(0)", 0);
        RUNS.make("addLayer(10, 5, 0, 0)", "addLayer(15, 5, 0, 0)", "addLayer(20, 5, 0, 3)", "addLayer(30, 5, 0, 3)");
        RUNS.due("place(0)", 0);
        int[] added = {1, 4, 1, 4, 1, 9, 1};
        int[] places = {1, 1, 2, 2, 3, 3, 4};
        for (int i = 0; i < added.length; i++) {
            RUNS.make("addClaim(0, 0, " + added[i] + ")");
            RUNS.due("place(0)", places[i]);
        }
        // The first two layers have nothing left for the second event.
        RUNS.make("addClaim(1, 0, 20)");
        RUNS.due("place(1)", 0);
        RUNS.make("addClaim(1, 0, 1)");
        RUNS.due("place(1)", 3);
        RUNS.sentence("Returns the number, 0 if no layer bears a part; NO_SUCH_ELEMENT.");
        RUNS.make("setRecovery(0, 999999)");
        RUNS.due("place(0)", 0);
        RUNS.dueBeside("place($)", -1, 2, Runs.NO_SUCH_ELEMENT);
        fullDesk();
        RUNS.due("place(0)", 3);
        RUNS.due("place(7)", 0);
        RUNS.dueBeside("place($)", -1, 8, Runs.NO_SUCH_ELEMENT);
        RUNS.desk("addEvent(0)");
        RUNS.due("place(0)", 0);
    }

    private static void promise29Worst() {
        RUNS.sentence("Returns the event with the greatest burden, of several the one that happens first.");
        RUNS.desk("addCover(99999, 99999, 0, 0)", "addEvent(9)");
        RUNS.due("worst()", 0);
        RUNS.make("addEvent(8)", "addEvent(9)", "addEvent(8)");
        RUNS.due("worst()", 1);
        RUNS.make("addClaim(2, 0, 5)");
        RUNS.due("worst()", 2);
        RUNS.make("addClaim(0, 0, 5)");
        RUNS.due("worst()", 0);
        RUNS.make("addClaim(3, 0, 5)");
        RUNS.due("worst()", 3);
        RUNS.make("addClaim(1, 0, 4)");
        RUNS.due("worst()", 3);
        RUNS.make("addClaim(1, 0, 1)");
        RUNS.due("worst()", 1);
        RUNS.make("setRecovery(1, 1)");
        RUNS.due("worst()", 3);
        RUNS.make("setDay(2, 0)");
        RUNS.due("worst()", 2);
        fullDesk();
        RUNS.due("worst()", 5);
        RUNS.make("setRecovery(5, 1)");
        RUNS.due("worst()", 4);
        RUNS.make("setDay(7, 0)");
        RUNS.due("worst()", 7);
        RUNS.sentence("Returns the event; NONE if there are no events.");
        RUNS.desk("addCover(9, 9, 0, 0)");
        RUNS.due("worst()", Runs.NONE);
        RUNS.make("addEvent(0)", "undo()");
        RUNS.due("worst()", Runs.NONE);
    }

    private static void promise30Account() {
        RUNS.sentence("0 for the sum of all losses, 1 for what all covers pay, 2 for the sum of the deducted amounts, 3 for "
            + "the sum of the burdens, 4 for what all layers bear, 5 for what is retained, 6 for the premiums of all "
            + "covers, 7 for the premiums and reinstatement premiums of all layers, 8 for the losses that are not paid: "
            + "the sum of all losses minus what all covers pay");
        fullDesk();
        RUNS.make("setRecovery(7, 999999)");
        int[] amounts = {676, 36 + 160 + 333, 0, 441 + 60, 105, 396, 21, 1000 + 200 + 900 + 600, 147};
        for (int what = 0; what <= 8; what++) {
            RUNS.due("account(" + what + ")", amounts[what]);
        }
        RUNS.make("setDeductible(2, 10)");
        RUNS.due("account(2)", 80);
        RUNS.sentence("Returns the amount; BAD_VALUE.");
        RUNS.dueBeside("account($)", -1, 9, Runs.BAD_VALUE);
        // The greatest sums: 24 losses of 221297, and six year limits.
        RUNS.desk("setIndex(100)");
        for (int i = 0; i < 6; i++) {
            RUNS.make("addCover(99999, 99999, 99999, 0)");
        }
        for (int i = 0; i < 8; i++) {
            RUNS.make("addEvent(364)");
        }
        for (int i = 0; i < 24; i++) {
            RUNS.make("addClaim(" + i % 8 + ", " + i % 6 + ", 99999)");
        }
        RUNS.due("account(0)", 24 * 221297);
        RUNS.due("account(1)", 6 * 99999);
        RUNS.due("account(3)", 6 * 99999);
        RUNS.due("account(5)", 6 * 99999);
        RUNS.due("account(6)", 6 * 99999);
        RUNS.due("account(8)", 24 * 221297 - 6 * 99999);
        RUNS.due("isBalanced()", 1);
    }

    private static void promise31Result() {
        RUNS.sentence("Returns the result of the year: the premiums of the covers minus the premiums and reinstatement "
            + "premiums of the layers minus what is retained, plus 10000000.");
        RUNS.desk();
        RUNS.due("result()", 10000000);
        fullDesk();
        RUNS.due("result()", 10000000 + 21 - 2700 - (529 - 105));
        // The greatest and the least one.
        RUNS.desk();
        for (int i = 0; i < 6; i++) {
            RUNS.make("addCover(99999, 99999, 99999, 0)");
        }
        RUNS.due("result()", 10000000 + 599994);
        RUNS.desk();
        for (int i = 0; i < 6; i++) {
            RUNS.make("addCover(99999, 99999, 0, 0)", "addEvent(0)", "addClaim(" + i + ", " + i + ", 99999)");
        }
        RUNS.due("result()", 10000000 - 599994);
        for (int i = 0; i < 4; i++) {
            RUNS.make("addLayer(" + i + ", 1, 99999, 3)");
        }
        RUNS.due("result()", 10000000 - 4 * 4 * 99999 - (599994 - 16));
    }

    private static void promise32RatioBits() {
        RUNS.sentence("Returns the loss ratio: what all covers pay divided by the premiums of the covers, both converted "
            + "to float.");
        int[][] pairs = {{0, 1}, {1, 1}, {1, 3}, {3, 1}, {99999, 99998}, {99998, 99999}, {1, 599994}, {599994, 1},
            {599994, 599993}, {2, 3}, {1, 2}, {2, 1}, {1, 65536}, {131072, 1}};
        for (int[] pair : pairs) {
            dueRatio(pair[0], pair[1]);
        }
        RUNS.sentence("Returns the bits of the float, as by Float.floatToIntBits; NONE if the premiums are 0.");
        RUNS.desk();
        RUNS.due("ratioBits()", Runs.NONE);
        RUNS.make("addCover(9, 9, 0, 0)", "addEvent(0)", "addClaim(0, 0, 5)");
        RUNS.due("ratioBits()", Runs.NONE);
        RUNS.make("addCover(9, 9, 1, 0)");
        RUNS.due("ratioBits()", 0x40A00000);
        RUNS.make("removeClaim(0)");
        RUNS.due("ratioBits()", 0);
    }

    /** Shares the payment and the premium out to six covers. */
    private static void dueRatio(int payment, int premium) {
        RUNS.desk("addEvent(0)");
        int paymentLeft = payment;
        int premiumLeft = premium;
        for (int i = 0; i < 6; i++) {
            RUNS.make("addCover(99999, 99999, " + Math.min(99999, premiumLeft) + ", 0)");
            if (paymentLeft > 0) {
                RUNS.make("addClaim(0, " + i + ", " + Math.min(99999, paymentLeft) + ")");
            }
            paymentLeft -= Math.min(99999, paymentLeft);
            premiumLeft -= Math.min(99999, premiumLeft);
        }
        RUNS.due("ratioBits()", Float.floatToIntBits((float) payment / (float) premium));
    }

    private static void promise33IsBalanced() {
        RUNS.sentence("Returns 1 if what is paid for all claims is what all covers pay, what all layers bear and what is "
            + "retained is the sum of the burdens, and what is paid and deducted together is at most the sum of all "
            + "losses; 0 otherwise.");
        RUNS.desk();
        RUNS.due("isBalanced()", 1);
        RUNS.make("addCover(10, 10, 0, 0)", "addEvent(0)");
        RUNS.due("isBalanced()", 1);
        RUNS.make("addClaim(0, 0, 10)");
        RUNS.due("isBalanced()", 1);
        RUNS.make("setDeductible(0, 99999)");
        RUNS.due("isBalanced()", 1);
        RUNS.make("setRecovery(0, 999999)");
        RUNS.due("isBalanced()", 1);
        fullDesk();
        RUNS.due("isBalanced()", 1);
        RUNS.make("setIndex(100)", "setDeductible(2, 7)", "setRecovery(3, 33)");
        RUNS.due("isBalanced()", 1);
    }

    private static void promise34PaidIf() {
        RUNS.sentence("Returns what all covers would pay in the year if an event had another day.");
        RUNS.desk("addCover(99999, 2000, 0, 0)", "setIndex(100)", "addEvent(0)", "addEvent(364)", "addClaim(0, 0, 1000)");
        RUNS.due("paidIf(0, 0)", 1000);
        RUNS.due("paidIf(0, 299)", 1996);
        RUNS.due("paidIf(0, 300)", 2000);
        RUNS.due("paidIf(0, 364)", 2000);
        RUNS.due("paidIf(1, 0)", 1000);
        RUNS.due("account(1)", 1000);
        RUNS.due("event(0, 0)", 0);
        RUNS.desk("addCover(100, 100, 0, 0)", "addCover(100, 100, 0, 0)", "addEvent(10)", "addEvent(20)",
            "addClaim(0, 0, 100)", "addClaim(1, 0, 50)");
        RUNS.due("paidIf(0, 21)", 100);
        RUNS.due("eventAt(0)", 0);
        RUNS.due("paid(0, 0)", 100);
        RUNS.due("paid(1, 0)", 0);
        RUNS.sentence("Returns the amount; NO_SUCH_ELEMENT (checked first); BAD_VALUE.");
        RUNS.dueBeside("paidIf($, 0)", -1, 2, Runs.NO_SUCH_ELEMENT);
        RUNS.dueBeside("paidIf($, -1)", -1, 2, Runs.NO_SUCH_ELEMENT);
        RUNS.dueBeside("paidIf($, 365)", -1, 2, Runs.NO_SUCH_ELEMENT);
        RUNS.dueBeside("paidIf(0, $)", -1, 365, Runs.BAD_VALUE);
        RUNS.dueBeside("paidIf(1, $)", -1, 365, Runs.BAD_VALUE);
        fullDesk();
        RUNS.due("paidIf(7, 0)", 529);
        RUNS.dueBeside("paidIf($, 0)", -1, 8, Runs.NO_SUCH_ELEMENT);
        RUNS.due("event(7, 0)", 7);
    }

    private static void promise35LeastLimit() {
        RUNS.sentence("Returns the least year limit of a cover for which it would pay in the year what it pays with the "
            + "year limit 99999.");
        RUNS.desk("addCover(99999, 1, 0, 0)", "addCover(99999, 99999, 0, 1)", "addEvent(0)", "addEvent(1)",
            "addClaim(0, 0, 50000)", "addClaim(1, 0, 49997)");
        RUNS.due("leastLimit(0)", 99997);
        for (int limit = 99998; limit <= 99999; limit++) {
            RUNS.make("addClaim(1, 0, 1)");
            RUNS.due("leastLimit(0)", limit);
        }
        RUNS.make("addClaim(1, 0, 1)");
        RUNS.due("leastLimit(0)", 99999);
        RUNS.make("addClaim(0, 0, 99999)");
        RUNS.due("leastLimit(0)", 99999);
        RUNS.due("cover(0, 1)", 1);
        RUNS.due("account(1)", 1);
        RUNS.desk("addCover(70, 5, 0, 2)", "setDeductible(2, 10)", "addEvent(0)", "addEvent(0)", "addClaim(0, 0, 80)",
            "addClaim(1, 0, 69)");
        RUNS.due("leastLimit(0)", 119);
        RUNS.sentence("Returns the limit, at least 1; NO_SUCH_ELEMENT.");
        RUNS.make("setDeductible(2, 69)");
        RUNS.due("leastLimit(0)", 1);
        RUNS.make("setDeductible(2, 68)");
        RUNS.due("leastLimit(0)", 3);
        RUNS.make("setDeductible(2, 70)");
        RUNS.due("leastLimit(0)", 1);
        RUNS.dueBeside("leastLimit($)", -1, 1, Runs.NO_SUCH_ELEMENT);
        fullDesk();
        RUNS.due("leastLimit(5)", 400);
        RUNS.due("leastLimit(2)", 1);
        RUNS.dueBeside("leastLimit($)", -1, 6, Runs.NO_SUCH_ELEMENT);
    }

    private static void promise36File() {
        RUNS.sentence("Files a copy of a cover or layer in a tray, in place of what is there.");
        RUNS.desk("addCover(9, 9, 9, 2)", "addCover(8, 8, 8, 1)", "addLayer(7, 6, 5, 3)");
        RUNS.due("file(2, 3, 0, 0)", 1);
        RUNS.due("file(2, 3, 1, 0)", 1);
        RUNS.due("filed(2, 3)", 1);
        RUNS.due("file(2, 3, 0, 1)", 1);
        RUNS.due("filed(2, 3)", 0);
        RUNS.due("use(2, 3)", 2);
        RUNS.due("cover(2, 3)", 1);
        RUNS.sentence("Returns the number of filled places of the tray; NO_SUCH_ELEMENT if there is no such tray or place "
            + "(checked first); BAD_VALUE if there is no such kind (checked second); NO_SUCH_ELEMENT if there is no such "
            + "cover or layer (checked third); UNLIKE if the tray does not hold this.");
        RUNS.desk("addCover(9, 9, 9, 2)", "addCover(8, 8, 8, 1)", "addLayer(7, 6, 5, 3)");
        for (int place = 0; place < 4; place++) {
            RUNS.due("file(0, " + place + ", 0, 1)", place + 1);
            RUNS.due("file(1, " + (3 - place) + ", 1, 0)", place + 1);
            RUNS.due("file(2, " + place + ", " + place % 2 + ", 0)", place + 1);
        }
        RUNS.due("file(0, 0, 0, 0)", 4);
        for (String rest : new String[] {"0, 0", "2, 0", "-1, 0", "0, 2", "1, 1", "1, 0"}) {
            RUNS.dueBeside("file($, 0, " + rest + ")", -1, 3, Runs.NO_SUCH_ELEMENT);
            RUNS.dueBeside("file(2, $, " + rest + ")", -1, 4, Runs.NO_SUCH_ELEMENT);
        }
        for (int tray = 0; tray < 3; tray++) {
            RUNS.dueBeside("file(" + tray + ", 0, $, 0)", -1, 2, Runs.BAD_VALUE);
            RUNS.dueBeside("file(" + tray + ", 0, $, 2)", -1, 2, Runs.BAD_VALUE);
            RUNS.dueBeside("file(" + tray + ", 0, $, -1)", -1, 2, Runs.BAD_VALUE);
            RUNS.dueBeside("file(" + tray + ", 0, 0, $)", -1, 2, Runs.NO_SUCH_ELEMENT);
            RUNS.dueBeside("file(" + tray + ", 0, 1, $)", -1, 1, Runs.NO_SUCH_ELEMENT);
        }
        RUNS.due("file(0, 0, 1, 0)", Runs.UNLIKE);
        RUNS.due("file(1, 3, 0, 0)", Runs.UNLIKE);
        fullDesk();
        RUNS.due("file(0, 0, 0, 5)", 1);
        RUNS.due("file(1, 0, 1, 3)", 1);
        RUNS.dueBeside("file(0, 0, 0, $)", -1, 6, Runs.NO_SUCH_ELEMENT);
        RUNS.dueBeside("file(1, 0, 1, $)", -1, 4, Runs.NO_SUCH_ELEMENT);
    }

    private static void promise37Use() {
        RUNS.sentence("Adds a copy of what is filed, as addCover or addLayer would.");
        RUNS.desk("addCover(1, 99999, 0, 2)", "addCover(99999, 1, 99999, 0)", "addLayer(999999, 99999, 99999, 3)",
            "file(0, 0, 0, 0)", "file(2, 3, 0, 1)", "file(1, 3, 1, 0)", "undo()");
        RUNS.due("use(0, 0)", 2);
        RUNS.due("use(2, 3)", 3);
        RUNS.due("use(1, 3)", 0);
        int[][] covers = {{1, 99999, 0, 2}, {99999, 1, 99999, 0}};
        int[] layer = {999999, 99999, 99999, 3};
        for (int what = 0; what < 4; what++) {
            RUNS.due("cover(2, " + what + ")", covers[0][what]);
            RUNS.due("cover(3, " + what + ")", covers[1][what]);
            RUNS.due("layer(0, " + what + ")", layer[what]);
        }
        RUNS.sentence("Returns the number of the cover or layer; NO_SUCH_ELEMENT if there is no such tray or place (checked "
            + "first); NONE if the place is empty (checked second); STATE and FULL as for addCover and addLayer.");
        RUNS.due("use(1, 3)", Runs.STATE);
        RUNS.due("use(0, 0)", 4);
        RUNS.due("use(2, 3)", 5);
        RUNS.due("use(0, 0)", Runs.FULL);
        RUNS.due("use(2, 3)", Runs.FULL);
        RUNS.due("count(0)", 6);
        RUNS.due("use(0, 1)", Runs.NONE);
        for (int tray = 0; tray < 3; tray++) {
            RUNS.dueBeside("use(" + tray + ", $)", -1, 4, Runs.NO_SUCH_ELEMENT);
        }
        for (int place = 0; place < 4; place++) {
            RUNS.dueBeside("use($, " + place + ")", -1, 3, Runs.NO_SUCH_ELEMENT);
        }
        RUNS.desk("addLayer(30, 1, 0, 0)", "file(1, 0, 1, 0)", "undo()", "addLayer(0, 10, 0, 0)", "addLayer(10, 10, 0, 0)",
            "addLayer(20, 10, 0, 0)");
        RUNS.due("use(1, 0)", 3);
        RUNS.due("use(1, 0)", Runs.STATE);
        RUNS.make("undo()", "undo()", "addLayer(20, 11, 0, 0)");
        RUNS.due("use(1, 0)", Runs.STATE);
        RUNS.make("undo()", "addLayer(20, 3, 0, 0)", "addLayer(23, 7, 0, 0)");
        RUNS.due("use(1, 0)", Runs.FULL);
        RUNS.due("count(1)", 4);
    }

    private static void promise38Filed() {
        RUNS.sentence("Returns 0 for a cover, 1 for a layer; NO_SUCH_ELEMENT if there is no such tray or place (checked "
            + "first); NONE if the place is empty.");
        RUNS.desk("addCover(9, 9, 0, 0)", "addLayer(9, 9, 0, 0)", "file(0, 3, 0, 0)", "file(1, 0, 1, 0)",
            "file(2, 0, 1, 0)", "file(2, 3, 0, 0)");
        int[][] kinds = {{-4, -4, -4, 0}, {1, -4, -4, -4}, {1, -4, -4, 0}};
        for (int tray = 0; tray < 3; tray++) {
            for (int place = 0; place < 4; place++) {
                RUNS.due("filed(" + tray + ", " + place + ")", kinds[tray][place]);
            }
            RUNS.dueBeside("filed(" + tray + ", $)", -1, 4, Runs.NO_SUCH_ELEMENT);
        }
        for (int place = 0; place < 4; place++) {
            RUNS.dueBeside("filed($, " + place + ")", -1, 3, Runs.NO_SUCH_ELEMENT);
        }
    }

    private static void promise39Save() {
        RUNS.sentence("Saves covers, layers, deductibles, the index rate, events with their recoveries, and claims. It "
            + "replaces an earlier copy.");
        RUNS.desk("addCover(9, 9, 1, 0)", "addLayer(1, 2, 3, 0)", "setDeductible(0, 4)", "setIndex(5)", "addEvent(6)",
            "setRecovery(0, 7)", "addClaim(0, 0, 8)", "save()");
        RUNS.make("setDeductible(0, 40)", "setIndex(50)", "setRecovery(0, 70)", "removeClaim(0)", "setDay(0, 60)",
            "addCover(1, 1, 1, 1)", "addLayer(3, 1, 1, 1)", "addEvent(1)", "restore()");
        String[] data = {"count(0)", "count(1)", "deductible(0)", "count(5)", "count(2)", "event(0, 0)", "event(0, 1)",
            "count(3)", "claim(0, 2)"};
        int[] numbers = {1, 1, 4, 5, 1, 6, 7, 1, 8};
        for (int i = 0; i < data.length; i++) {
            RUNS.due(data[i], numbers[i]);
        }
        RUNS.make("setDeductible(2, 11)", "save()", "setDeductible(2, 12)", "restore()");
        RUNS.due("deductible(2)", 11);
        RUNS.due("deductible(0)", 4);
        RUNS.sentence("Returns the number of claims.");
        RUNS.desk();
        RUNS.due("save()", 0);
        fullDesk();
        RUNS.due("save()", 24);
        RUNS.make("removeClaim(0)");
        RUNS.due("save()", 23);
        // A full desk replaces an empty one, and the other way round.
        RUNS.desk("save()", "addCover(9, 9, 0, 0)", "addEvent(3)", "addClaim(0, 0, 5)");
        RUNS.due("restore()", 0);
        RUNS.due("count(0)", 0);
        RUNS.due("count(2)", 0);
        fullDesk();
        RUNS.make("save()");
        for (int i = 0; i < 6; i++) {
            RUNS.make("removeClaim(0)");
        }
        RUNS.due("restore()", 24);
        RUNS.due("claim(0, 2)", 50);
        RUNS.due("claim(23, 2)", 30);
        RUNS.due("account(1)", 529);
        saveOfFullRows();
    }

    /** The copy of six covers, four layers and the last event and claim, where there are others in their places. */
    private static void saveOfFullRows() {
        RUNS.desk();
        for (int i = 0; i < 6; i++) {
            RUNS.make("addCover(" + (i + 1) + ", " + (i + 11) + ", " + (i + 21) + ", " + i % 3 + ")");
        }
        RUNS.make("save()", "undo()", "undo()", "undo()", "undo()", "undo()", "undo()");
        for (int i = 0; i < 6; i++) {
            RUNS.make("addCover(99, 99, 99, " + (i + 1) % 3 + ")");
        }
        RUNS.make("restore()");
        for (int i = 0; i < 6; i++) {
            int[] numbers = {i + 1, i + 11, i + 21, i % 3};
            for (int what = 0; what < 4; what++) {
                RUNS.due("cover(" + i + ", " + what + ")", numbers[what]);
            }
        }
        RUNS.desk();
        for (int i = 0; i < 4; i++) {
            RUNS.make("addLayer(" + 10 * i + ", " + (i + 1) + ", " + (i + 21) + ", " + i + ")");
        }
        RUNS.make("save()", "undo()", "undo()", "undo()", "undo()");
        for (int i = 0; i < 4; i++) {
            RUNS.make("addLayer(" + 100 * (i + 1) + ", 99, 99, " + (3 - i) + ")");
        }
        RUNS.make("restore()");
        for (int i = 0; i < 4; i++) {
            int[] numbers = {10 * i, i + 1, i + 21, i};
            for (int what = 0; what < 4; what++) {
                RUNS.due("layer(" + i + ", " + what + ")", numbers[what]);
            }
        }
        fullDesk();
        RUNS.make("setRecovery(7, 5)", "save()", "setDay(7, 99)", "setRecovery(7, 6)", "removeClaim(23)",
            "addClaim(0, 0, 99)", "restore()");
        dueLastRows();
    }

    /** The last event and the last claim of a full desk. */
    private static void dueLastRows() {
        RUNS.due("event(7, 0)", 7);
        RUNS.due("event(7, 1)", 5);
        RUNS.due("claim(23, 0)", 7);
        RUNS.due("claim(23, 1)", 1);
        RUNS.due("claim(23, 2)", 30);
    }

    private static void promise40Restore() {
        RUNS.sentence("Restores what was saved. The copy remains available.");
        RUNS.desk("addEvent(1)", "save()");
        for (int i = 0; i < 3; i++) {
            RUNS.make("setDay(0, " + (i + 2) + ")", "setRecovery(0, 9)", "addEvent(5)");
            RUNS.due("restore()", 0);
            RUNS.due("event(0, 0)", 1);
            RUNS.due("event(0, 1)", 0);
            RUNS.due("count(2)", 1);
        }
        RUNS.sentence("No change can be undone afterwards.");
        RUNS.due("undo()", Runs.NONE);
        RUNS.make("addEvent(2)");
        RUNS.due("undo()", 0);
        RUNS.due("undo()", Runs.NONE);
        RUNS.due("count(2)", 1);
        RUNS.make("setIndex(1)", "setIndex(2)", "setIndex(3)", "setIndex(4)", "setIndex(5)", "setIndex(6)", "save()");
        RUNS.due("undo()", 5);
        RUNS.make("restore()");
        RUNS.due("count(5)", 6);
        RUNS.due("undo()", Runs.NONE);
        RUNS.due("count(5)", 6);
        RUNS.sentence("Returns the number of claims; STATE if nothing was saved.");
        RUNS.desk();
        RUNS.due("restore()", Runs.STATE);
        RUNS.make("addEvent(1)");
        RUNS.due("restore()", Runs.STATE);
        RUNS.due("count(2)", 1);
        RUNS.due("undo()", 0);
        RUNS.due("save()", 0);
        RUNS.due("restore()", 0);
        fullDesk();
        RUNS.due("restore()", Runs.STATE);
        RUNS.make("save()", "removeClaim(5)", "removeClaim(5)");
        RUNS.due("restore()", 24);
    }
}
