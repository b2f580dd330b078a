/**
 * A call that returns an error code leaves everything unchanged: each such call is made on one of two desks that are
 * made alike, and then both are asked for all that they hold, to the last undo, the text, the trays and the copy.
 */
public final class RefusalsTest {
    private static final Runs RUNS = new Runs();
    private static final int FAULT = 3;
    private static final String[] COUNTS = {"count(0)", "count(1)", "count(2)", "count(3)", "count(4)", "count(5)"};

    /** A desk with room for all, of which more than 6 changes are behind, with a copy, a text and a fault. */
    private static final String[] ROOMY = {"addCover(100, 150, 40, 0)", "addCover(200, 900, 60, 1)",
        "addLayer(50, 100, 30, 1)", "addEvent(100)", "addEvent(50)", "addClaim(0, 0, 70)", "addClaim(1, 1, 90)", "save()",
        "setDeductible(0, 30)", "setRecovery(0, 9)", "setDay(1, 40)", "setIndex(6)", "addClaim(0, 0, 80)", "addEvent(7)",
        "removeClaim(0)", "file(0, 1, 0, 1)", "file(2, 3, 1, 0)"};
    /** A desk without a copy, where fewer than 6 changes are behind. */
    private static final String[] YOUNG = {"addCover(100, 150, 40, 0)", "addEvent(3)", "addClaim(0, 0, 7)",
        "setRecovery(0, 5)"};

    public static void main(String[] args) {
        refusedWhereThereIsRoom();
        refusedOnAYoungDesk();
        refusedOnAnEmptyDesk();
        refusedWhereAllIsFull();
        refusedAppend();
        refusedRead();
        askedQuestions();
        RUNS.finish();
    }

    private static void unchanged() {
        RUNS.sentence("A call that returns an error code leaves everything unchanged, unless its description says "
            + "otherwise.");
    }

    private static void refusedWhereThereIsRoom() {
        unchanged();
        String[] noElement = {"addClaim(3, 0, 5)", "addClaim(-1, 0, 5)", "addClaim(0, 2, 5)", "addClaim(0, -1, 5)",
            "removeClaim(2)", "removeClaim(-1)", "setDay(3, 5)", "setDay(-1, 5)", "setDeductible(3, 5)",
            "setDeductible(-1, 5)", "setRecovery(3, 5)", "setRecovery(-1, 5)", "cover(2, 0)", "layer(1, 0)",
            "deductible(3)", "event(3, 0)", "eventAt(3)", "claim(2, 0)", "gross(3, 0)", "deducted(0, 2)", "paid(3, 0)",
            "leftBefore(0, 2)", "borne(0, 1)", "returned(0, 2)", "returned(3, 0)", "place(3)", "paidIf(3, 0)",
            "leastLimit(2)", "file(3, 0, 0, 0)", "file(0, 4, 0, 0)", "file(0, 1, 0, 2)", "file(2, 3, 1, 1)",
            "use(3, 0)", "use(0, 4)", "filed(3, 0)", "filed(0, -1)"};
        dueUnchanged(ROOMY, noElement, Runs.NO_SUCH_ELEMENT);
        String[] badValue = {"addCover(0, 1, 1, 1)", "addCover(1, 100000, 1, 1)", "addCover(1, 1, -1, 1)",
            "addCover(1, 1, 1, 3)", "addLayer(-1, 1, 1, 1)", "addLayer(500, 0, 1, 1)", "addLayer(500, 1, 100000, 1)",
            "addLayer(500, 1, 1, 4)", "addEvent(-1)", "addEvent(365)", "addClaim(0, 0, 0)", "addClaim(0, 0, 100000)",
            "setDay(0, -1)", "setDay(0, 365)", "setDeductible(0, -1)", "setDeductible(0, 100000)", "setIndex(-1)",
            "setIndex(101)", "setRecovery(0, -1)", "setRecovery(0, 1000000)", "append(32)", "append(" + 0x65312033 + ")", "append(" + 0x7F + ")",
            "count(6)", "cover(0, 6)", "layer(0, 8)", "event(0, 8)", "claim(0, 6)", "account(9)", "paidIf(0, 365)",
            "paidIf(0, -1)", "file(0, 1, 2, 0)", "file(2, 3, -1, 0)"};
        dueUnchanged(ROOMY, badValue, Runs.BAD_VALUE);
        dueUnchanged(ROOMY, new String[] {"addLayer(149, 1, 1, 1)", "use(2, 3)"}, Runs.STATE);
        dueUnchanged(ROOMY, new String[] {"use(0, 0)", "use(1, 3)"}, Runs.NONE);
        dueUnchanged(ROOMY, new String[] {"file(0, 1, 1, 0)", "file(1, 3, 0, 1)"}, Runs.UNLIKE);
    }

    private static void refusedOnAYoungDesk() {
        unchanged();
        dueUnchanged(YOUNG, new String[] {"addCover(0, 1, 1, 1)", "addLayer(0, 0, 0, 0)", "addEvent(365)", "setDay(0, -1)",
            "addClaim(0, 0, 0)", "setIndex(101)", "setDeductible(2, -1)", "setRecovery(0, -1)"}, Runs.BAD_VALUE);
        dueUnchanged(YOUNG, new String[] {"removeClaim(1)", "addClaim(0, 1, 1)", "setDay(1, 1)", "setRecovery(1, 1)",
            "setDeductible(3, 1)", "file(1, 0, 1, 0)"}, Runs.NO_SUCH_ELEMENT);
        dueUnchanged(YOUNG, new String[] {"use(0, 0)"}, Runs.NONE);
        dueUnchanged(YOUNG, new String[] {"restore()"}, Runs.STATE);
        dueUnchanged(YOUNG, new String[] {"file(1, 0, 0, 0)"}, Runs.UNLIKE);
    }

    private static void refusedOnAnEmptyDesk() {
        unchanged();
        String[] empty = {};
        dueUnchanged(empty, new String[] {"undo()", "worst()", "ratioBits()", "use(0, 0)", "filed(2, 3)"}, Runs.NONE);
        dueUnchanged(empty, new String[] {"removeClaim(0)", "setDay(0, 0)", "file(0, 0, 0, 0)"}, Runs.NO_SUCH_ELEMENT);
        dueUnchanged(empty, new String[] {"restore()"}, Runs.STATE);
    }

    private static void refusedWhereAllIsFull() {
        unchanged();
        String[] full = new String[52];
        int filled = 0;
        for (int i = 0; i < 6; i++) {
            full[filled++] = "addCover(" + (100 + i) + ", 500, 20, " + i % 3 + ")";
        }
        for (int i = 0; i < 4; i++) {
            full[filled++] = "addLayer(" + 100 * i + ", 100, 20, " + i + ")";
        }
        for (int i = 0; i < 8; i++) {
            full[filled++] = "addEvent(" + 20 * i + ")";
        }
        for (int i = 0; i < 24; i++) {
            full[filled++] = "addClaim(" + i % 8 + ", " + i % 6 + ", " + (i + 30) + ")";
        }
        full[filled++] = "save()";
        full[filled++] = "file(0, 0, 0, 5)";
        full[filled++] = "file(0, 1, 0, 4)";
        for (int i = 0; i < 7; i++) {
            full[filled++] = "setIndex(" + (i + 1) + ")";
        }
        dueUnchanged(full, new String[] {"addCover(1, 1, 1, 1)", "addLayer(999999, 1, 1, 1)", "addEvent(1)",
            "addClaim(0, 0, 1)", "use(0, 0)"}, Runs.FULL);
        dueUnchanged(full, new String[] {"addLayer(399, 1, 1, 1)"}, Runs.STATE);
    }

    private static void refusedAppend() {
        unchanged();
        for (int room = 0; room < 4; room++) {
            RUNS.desk("addEvent(1)");
            String text = "r0=1;r0=2;r0=3;r0=4;r0=5;r0=6;r0=7;r0=8;r0=9;r0=10;r0=000011";
            RUNS.write(text.substring(0, 60 - room));
            RUNS.due("append(" + (0x65313233 >>> 8 * (3 - room)) + ")", Runs.FULL);
            RUNS.due("append(" + 0x65312033 + ")", Runs.BAD_VALUE);
            RUNS.due("count(4)", 60 - room);
            RUNS.due("read()", 11);
            RUNS.due("event(0, 1)", room == 0 ? 11 : room == 1 ? 1 : 0);
        }
    }

    private static void refusedRead() {
        RUNS.sentence("Reads the text as entries and makes them in their order. The text is empty afterwards in any case. "
            + "If an entry is refused, none of them is made.");
        String[] texts = {"", "e1;", "e1;r0=4;c0,0,5;x", "r0=1;r1=2;c0,1,3;e9;e365", "c0,0,1;c0,0,2;r0=7;c5,0,3",
            "e1;e2;e3;e4;e5;e6;e7;e8"};
        for (String text : texts) {
            dueUnchangedByRead(ROOMY, text);
            dueUnchangedByRead(YOUNG, text);
        }
    }

    private static void dueUnchangedByRead(String[] setup, String text) {
        RUNS.desk(setup);
        String want = allThatRemains();
        RUNS.desk(setup);
        RUNS.write(text);
        int answer = RUNS.call("read()");
        RUNS.dueNumber("read() of \"" + text + "\" is refused", answer < 0 ? 1 : 0, 1);
        RUNS.dueText("what remains after \"" + text + "\"", allThatRemains(), want);
    }

    private static void askedQuestions() {
        RUNS.sentence("Nothing is computed before it is asked for: all results follow the present data.");
        String[] questions = {"faultPosition()", "count(0)", "cover(0, 4)", "layer(0, 7)", "deductible(0)", "event(0, 6)",
            "eventAt(0)", "claim(0, 5)", "gross(0, 0)", "deducted(0, 0)", "paid(0, 0)", "leftBefore(0, 0)",
            "borne(0, 0)", "returned(0, 0)", "returned(0, 1)", "place(0)", "worst()", "account(7)", "result()",
            "ratioBits()", "isBalanced()", "paidIf(0, 0)", "paidIf(1, 364)", "leastLimit(0)", "filed(0, 1)", "append(0)"};
        dueUnchanged(ROOMY, questions, 0);
    }

    /** Each of the calls answers the code, or no error code if it is 0, and all is as without it. */
    private static void dueUnchanged(String[] setup, String[] calls, int code) {
        prepare(setup);
        String want = allThatRemains();
        for (String call : calls) {
            prepare(setup);
            if (code < 0) {
                RUNS.due(call, code);
            } else {
                RUNS.make(call);
            }
            RUNS.due("faultPosition()", FAULT);
            RUNS.dueText("what remains after " + call, allThatRemains(), want);
        }
    }

    /** The desk, with a text that was read and has a fault at 3, and one that is not read yet. */
    private static void prepare(String[] setup) {
        RUNS.desk(setup);
        RUNS.write("e1;q");
        RUNS.call("read()");
        RUNS.write("r0=1;e3");
    }

    /** Changes the desk so far that it is of no more use. */
    private static String allThatRemains() {
        StringBuilder all = new StringBuilder();
        askCounts(all);
        askData(all);
        for (int i = 0; i < 7; i++) {
            ask(all, "undo()");
            askCounts(all);
            ask(all, "account(1)");
            ask(all, "event(0, 1)");
            ask(all, "deductible(0)");
        }
        ask(all, "read()");
        ask(all, "faultPosition()");
        askCounts(all);
        ask(all, "undo()");
        ask(all, "restore()");
        askCounts(all);
        ask(all, "account(0)");
        ask(all, "account(1)");
        askTrays(all);
        return all.toString();
    }

    private static void ask(StringBuilder all, String call) {
        all.append(call).append('=').append(RUNS.call(call)).append(' ');
    }

    private static void askCounts(StringBuilder all) {
        for (String call : COUNTS) {
            ask(all, call);
        }
    }

    private static void askData(StringBuilder all) {
        askRows(all, "cover", "count(0)", 4);
        askRows(all, "layer", "count(1)", 4);
        askRows(all, "event", "count(2)", 2);
        askRows(all, "claim", "count(3)", 3);
        for (int group = 0; group < 3; group++) {
            ask(all, "deductible(" + group + ")");
        }
        for (int what = 0; what <= 8; what++) {
            ask(all, "account(" + what + ")");
        }
    }

    private static void askRows(StringBuilder all, String call, String count, int numbers) {
        int rows = RUNS.call(count);
        for (int i = 0; i < rows; i++) {
            for (int what = 0; what < numbers; what++) {
                ask(all, call + "(" + i + ", " + what + ")");
            }
        }
    }

    private static void askTrays(StringBuilder all) {
        for (int tray = 0; tray < 3; tray++) {
            for (int place = 0; place < 4; place++) {
                ask(all, "filed(" + tray + ", " + place + ")");
                ask(all, "use(" + tray + ", " + place + ")");
            }
        }
        ask(all, "cover(2, 0)");
        ask(all, "cover(2, 3)");
        ask(all, "layer(1, 0)");
        ask(all, "layer(1, 3)");
    }
}
