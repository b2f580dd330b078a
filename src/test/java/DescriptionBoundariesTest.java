/** Each sentence of the part "Description" of ../shared/DOC.md that names a boundary case, at that boundary. */
public final class DescriptionBoundariesTest {
    private static final Runs RUNS = new Runs();

    public static void main(String[] args) {
        amounts();
        numberOfCovers();
        rangesOfCovers();
        rangesOfDeductibles();
        numberOfEvents();
        rangesOfDays();
        orderOfEvents();
        numberOfClaims();
        rangesOfClaims();
        rangesOfIndex();
        quotientOfFactor();
        floatLosses();
        shareOut();
        shareOutOfNothing();
        grossLosses();
        deductedAmounts();
        yearLimits();
        paymentsForClaims();
        rangesOfRecoveries();
        burdens();
        numberOfLayers();
        rangesOfLayers();
        beginningsOfLayers();
        burdenParts();
        capacities();
        reinstatedAmounts();
        reinstatementPremiums();
        retainedParts();
        returnedParts();
        reasons();
        textsOfEntries();
        textsOfEachKind();
        digitsOfNumbers();
        faultPositions();
        refusedEntries();
        trays();
        copiesInTrays();
        changes();
        changesThatAreNone();
        latestChanges();
        traysAndHistory();
        severalErrorCodes();
        latestCall();
        RUNS.finish();
    }

    private static void amounts() {
        RUNS.sentence("Nothing is computed before it is asked for: all results follow the present data.");
        RUNS.desk("addCover(100, 1000, 10, 0)", "addEvent(0)", "addClaim(0, 0, 60)");
        RUNS.due("account(1)", 60);
        RUNS.make("setDeductible(0, 10)");
        RUNS.due("account(1)", 50);
        RUNS.make("addClaim(0, 0, 1)");
        RUNS.due("account(1)", 51);
        RUNS.make("setIndex(100)", "setDay(0, 30)");
        RUNS.due("account(1)", 57);
        RUNS.make("addLayer(7, 30, 0, 0)");
        RUNS.due("account(4)", 30);
        RUNS.make("setRecovery(0, 25)");
        RUNS.due("account(4)", 25);
        RUNS.make("removeClaim(0)");
        RUNS.due("account(1)", 0);
        RUNS.due("account(4)", 0);
        RUNS.make("undo()");
        RUNS.due("account(4)", 25);
    }

    private static void numberOfCovers() {
        RUNS.sentence("There are at most 6 covers, numbered from 0 in the order in which they were added.");
        RUNS.desk();
        RUNS.due("cover(0, 0)", Runs.NO_SUCH_ELEMENT);
        for (int i = 0; i < 6; i++) {
            RUNS.due("count(0)", i);
            RUNS.due("addCover(" + (i + 1) + ", " + (i + 11) + ", " + (i + 21) + ", " + i % 3 + ")", i);
        }
        RUNS.due("addCover(7, 17, 27, 0)", Runs.FULL);
        RUNS.due("count(0)", 6);
        RUNS.due("cover(6, 0)", Runs.NO_SUCH_ELEMENT);
        for (int i = 0; i < 6; i++) {
            RUNS.due("cover(" + i + ", 0)", i + 1);
            RUNS.due("cover(" + i + ", 1)", i + 11);
            RUNS.due("cover(" + i + ", 2)", i + 21);
            RUNS.due("cover(" + i + ", 3)", i % 3);
        }
        RUNS.make("undo()");
        RUNS.due("addCover(7, 17, 27, 0)", 5);
        RUNS.due("cover(5, 0)", 7);
    }

    private static void rangesOfCovers() {
        RUNS.sentence("A cover has an event limit and a year limit, both from 1 to 99999, a premium from 0 to 99999, "
            + "and a group, 0 to 2.");
        RUNS.desk("addCover(1, 99999, 0, 0)", "addCover(99999, 1, 99999, 1)", "addCover(99999, 99999, 1, 2)");
        RUNS.make("addEvent(0)", "addClaim(0, 0, 99999)", "addClaim(0, 1, 99999)", "addClaim(0, 2, 99999)");
        RUNS.due("paid(0, 0)", 1);
        RUNS.due("paid(0, 1)", 1);
        RUNS.due("paid(0, 2)", 99999);
        RUNS.due("account(6)", 100000);
        RUNS.due("cover(0, 3)", 0);
        RUNS.due("cover(1, 3)", 1);
        RUNS.due("cover(2, 3)", 2);
        RUNS.dueBeside("addCover($, 1, 0, 0)", 0, 100000, Runs.BAD_VALUE);
        RUNS.dueBeside("addCover(1, $, 0, 0)", 0, 100000, Runs.BAD_VALUE);
        RUNS.dueBeside("addCover(1, 1, $, 0)", -1, 100000, Runs.BAD_VALUE);
        RUNS.dueBeside("addCover(1, 1, 0, $)", -1, 3, Runs.BAD_VALUE);
    }

    private static void rangesOfDeductibles() {
        RUNS.sentence("A group has a deductible from 0 to 99999, which is 0 at first.");
        RUNS.desk("addCover(99999, 99999, 0, 2)", "addEvent(0)", "addClaim(0, 0, 99999)");
        for (int group = 0; group < 3; group++) {
            RUNS.due("deductible(" + group + ")", 0);
        }
        RUNS.due("paid(0, 0)", 99999);
        RUNS.due("setDeductible(2, 99999)", 0);
        RUNS.due("paid(0, 0)", 0);
        RUNS.due("setDeductible(2, 99998)", 99999);
        RUNS.due("paid(0, 0)", 1);
        RUNS.due("setDeductible(2, 0)", 99998);
        RUNS.due("paid(0, 0)", 99999);
        RUNS.dueBeside("setDeductible(2, $)", -1, 100000, Runs.BAD_VALUE);
        RUNS.due("deductible(2)", 0);
    }

    private static void numberOfEvents() {
        RUNS.sentence("There are at most 8 events, numbered from 0 in the order in which they were added.");
        RUNS.desk();
        RUNS.due("event(0, 0)", Runs.NO_SUCH_ELEMENT);
        for (int i = 0; i < 8; i++) {
            RUNS.due("count(2)", i);
            RUNS.due("addEvent(" + (364 - i) + ")", i);
        }
        RUNS.due("addEvent(0)", Runs.FULL);
        RUNS.due("count(2)", 8);
        RUNS.due("event(8, 0)", Runs.NO_SUCH_ELEMENT);
        for (int i = 0; i < 8; i++) {
            RUNS.due("event(" + i + ", 0)", 364 - i);
        }
        RUNS.make("undo()");
        RUNS.due("addEvent(0)", 7);
        RUNS.due("event(7, 0)", 0);
    }

    private static void rangesOfDays() {
        RUNS.sentence("An event has a day from 0 to 364.");
        RUNS.desk();
        RUNS.due("addEvent(0)", 0);
        RUNS.due("addEvent(364)", 1);
        RUNS.due("event(0, 0)", 0);
        RUNS.due("event(1, 0)", 364);
        RUNS.dueBeside("addEvent($)", -1, 365, Runs.BAD_VALUE);
        RUNS.dueBeside("setDay(0, $)", -1, 365, Runs.BAD_VALUE);
        RUNS.due("count(2)", 2);
    }

    private static void orderOfEvents() {
        RUNS.sentence("Events happen in the order of their days, and those of the same day in the order of their "
            + "numbers.");
        RUNS.desk("addEvent(5)", "addEvent(364)", "addEvent(5)", "addEvent(0)", "addEvent(4)", "addEvent(364)",
            "addEvent(0)", "addEvent(5)");
        int[] events = {3, 6, 4, 0, 2, 7, 1, 5};
        for (int position = 0; position < 8; position++) {
            RUNS.due("eventAt(" + position + ")", events[position]);
            RUNS.due("event(" + events[position] + ", 7)", position);
        }
        RUNS.make("setDay(7, 4)");
        RUNS.due("eventAt(3)", 7);
        RUNS.make("setDay(0, 364)");
        RUNS.due("event(0, 7)", 5);
        RUNS.make("setDay(5, 0)");
        RUNS.due("event(5, 7)", 1);
        RUNS.due("event(6, 7)", 2);
    }

    private static void numberOfClaims() {
        RUNS.sentence("There are at most 24 claims, numbered from 0 in the order in which they were added.");
        RUNS.desk("addCover(1, 1, 0, 0)", "addCover(1, 1, 0, 0)", "addEvent(0)", "addEvent(0)", "addEvent(0)");
        RUNS.due("claim(0, 0)", Runs.NO_SUCH_ELEMENT);
        for (int i = 0; i < 24; i++) {
            RUNS.due("count(3)", i);
            RUNS.due("addClaim(" + i % 3 + ", " + i % 2 + ", " + (i + 1) + ")", i);
        }
        RUNS.due("addClaim(0, 0, 25)", Runs.FULL);
        RUNS.due("count(3)", 24);
        RUNS.due("claim(24, 0)", Runs.NO_SUCH_ELEMENT);
        for (int i = 0; i < 24; i++) {
            RUNS.due("claim(" + i + ", 0)", i % 3);
            RUNS.due("claim(" + i + ", 1)", i % 2);
            RUNS.due("claim(" + i + ", 2)", i + 1);
        }
        RUNS.make("removeClaim(0)");
        RUNS.due("addClaim(0, 0, 25)", 23);
        RUNS.due("claim(23, 2)", 25);
        RUNS.due("addClaim(0, 0, 26)", Runs.FULL);
    }

    private static void rangesOfClaims() {
        RUNS.sentence("A claim has an event, a cover and an amount from 1 to 99999.");
        RUNS.desk("addCover(99999, 99999, 0, 0)", "addEvent(0)");
        RUNS.due("addClaim(0, 0, 1)", 0);
        RUNS.due("addClaim(0, 0, 99999)", 1);
        RUNS.due("claim(0, 2)", 1);
        RUNS.due("claim(1, 2)", 99999);
        RUNS.dueBeside("addClaim(0, 0, $)", 0, 100000, Runs.BAD_VALUE);
        RUNS.dueBeside("addClaim($, 0, 1)", -1, 1, Runs.NO_SUCH_ELEMENT);
        RUNS.dueBeside("addClaim(0, $, 1)", -1, 1, Runs.NO_SUCH_ELEMENT);
        RUNS.due("count(3)", 2);
    }

    private static void rangesOfIndex() {
        RUNS.sentence("There is an index rate from 0 to 100, which is 0 at first.");
        RUNS.desk("addCover(99999, 99999, 0, 0)", "addEvent(364)", "addClaim(0, 0, 1000)");
        RUNS.due("count(5)", 0);
        RUNS.due("claim(0, 3)", 1000);
        RUNS.due("setIndex(100)", 0);
        RUNS.due("claim(0, 3)", 2213);
        RUNS.due("setIndex(0)", 100);
        RUNS.due("claim(0, 3)", 1000);
        RUNS.dueBeside("setIndex($)", -1, 101, Runs.BAD_VALUE);
        RUNS.due("count(5)", 0);
    }

    private static void quotientOfFactor() {
        RUNS.sentence("The factor of an event is the float 1.0f + q / 1000.0f, where q is the product of the index "
            + "rate and the day, divided by 30 and rounded down, converted to float.");
        RUNS.desk("addCover(99999, 99999, 0, 0)", "addEvent(29)", "addClaim(0, 0, 1000)", "setIndex(1)");
        RUNS.due("claim(0, 3)", 1000);
        RUNS.make("setDay(0, 30)");
        RUNS.due("claim(0, 3)", 1001);
        RUNS.make("setDay(0, 59)");
        RUNS.due("claim(0, 3)", 1001);
        RUNS.make("setDay(0, 60)");
        RUNS.due("claim(0, 3)", 1002);
        // The product is divided, not the day: 29 * 100 / 30 = 96.
        RUNS.make("setDay(0, 29)", "setIndex(100)");
        RUNS.due("claim(0, 3)", 1096);
        RUNS.make("setDay(0, 0)");
        RUNS.due("claim(0, 3)", 1000);
        // 100 * 364 / 30 = 1213 and 10 thirtieths.
        RUNS.make("setDay(0, 364)", "addClaim(0, 0, 99999)");
        RUNS.due("claim(0, 3)", 2213);
        RUNS.due("claim(1, 3)", 221297);
        RUNS.make("addClaim(0, 0, 1)", "setDay(0, 299)");
        RUNS.due("claim(2, 3)", 1);
        RUNS.make("setDay(0, 300)");
        RUNS.due("claim(2, 3)", 2);
        // 1.0f + 1.18f is less than 2.18f, which 2180.0f / 1000.0f would be.
        RUNS.make("addClaim(0, 0, 50)", "setDay(0, 354)");
        RUNS.due("claim(3, 3)", 108);
    }

    private static void floatLosses() {
        RUNS.sentence("The loss of a claim is the amount of the claim, converted to float, times the factor of its "
            + "event, as a float, cast to int.");
        RUNS.desk("addCover(99999, 99999, 0, 0)", "addEvent(30)", "addClaim(0, 0, 1000)", "addClaim(0, 0, 78769)");
        // 1.004f is less than 1.004.
        RUNS.make("setIndex(4)");
        RUNS.due("claim(0, 3)", 1003);
        // 1.002f is less than 1.002, but the product as a float is 1002.
        RUNS.make("setIndex(2)");
        RUNS.due("claim(0, 3)", 1002);
        // 78769 * 1.013 = 79792.997, and the next float is 79793.
        RUNS.make("setIndex(13)");
        RUNS.due("claim(1, 3)", 79793);
    }

    private static void shareOut() {
        RUNS.sentence("each one gets the amount times its weight divided by the sum of the weights, rounded down; "
            + "then those with the greatest remainders of these divisions, of several the lowest one, get 1 more "
            + "each, until all is shared out.");
        dueShares(new int[] {10, 10, 10}, 1, new int[] {1, 0, 0});
        dueShares(new int[] {10, 10, 10}, 2, new int[] {1, 1, 0});
        dueShares(new int[] {10, 10, 10}, 3, new int[] {1, 1, 1});
        dueShares(new int[] {1, 2, 3}, 5, new int[] {1, 2, 2});
        dueShares(new int[] {3, 2, 1}, 5, new int[] {2, 2, 1});
        dueShares(new int[] {3, 2, 1}, 1, new int[] {1, 0, 0});
        dueShares(new int[] {1, 2, 3}, 1, new int[] {0, 0, 1});
        dueShares(new int[] {1, 2, 3}, 6, new int[] {1, 2, 3});
        dueShares(new int[] {0, 5, 5}, 1, new int[] {0, 1, 0});
        dueShares(new int[] {5, 0, 5}, 7, new int[] {4, 0, 3});
        dueShares(new int[] {10, 10, 12, 10}, 5, new int[] {1, 1, 2, 1});
        dueShares(new int[] {10, 10, 12, 10}, 6, new int[] {2, 1, 2, 1});
        dueShares(new int[] {7, 7}, 7, new int[] {4, 3});
        dueShares(new int[] {1, 1, 1, 1, 1, 1}, 5, new int[] {1, 1, 1, 1, 1, 0});
        dueShares(new int[] {99999, 99999}, 99999, new int[] {50000, 49999});
        dueShares(new int[] {99999, 1}, 99999, new int[] {99998, 1});
        dueShares(new int[] {99999, 99999, 99999, 99999, 99999, 99999}, 99999,
            new int[] {16667, 16667, 16667, 16666, 16666, 16666});
    }

    /** A deductible is shared out to covers of one group, whose gross losses are the weights. */
    private static void dueShares(int[] weights, int amount, int[] shares) {
        RUNS.desk("addEvent(0)", "setDeductible(1, " + amount + ")");
        for (int i = 0; i < weights.length; i++) {
            RUNS.make("addCover(99999, 99999, 0, 1)");
            if (weights[i] > 0) {
                RUNS.make("addClaim(0, " + i + ", " + weights[i] + ")");
            }
        }
        for (int i = 0; i < shares.length; i++) {
            RUNS.due("deducted(0, " + i + ")", shares[i]);
        }
    }

    private static void shareOutOfNothing() {
        RUNS.sentence("If the amount is 0, each gets 0, whatever the weights are.");
        dueShares(new int[] {0, 0, 0}, 0, new int[] {0, 0, 0});
        dueShares(new int[] {0, 0, 0}, 99999, new int[] {0, 0, 0});
        dueShares(new int[] {5, 0, 99999}, 0, new int[] {0, 0, 0});
        RUNS.desk("addCover(10, 10, 0, 0)", "addEvent(0)", "addEvent(1)", "addClaim(0, 0, 10)", "addClaim(1, 0, 3)",
            "addClaim(1, 0, 3)");
        RUNS.due("paid(1, 0)", 0);
        RUNS.due("claim(1, 4)", 0);
        RUNS.due("claim(2, 4)", 0);
        RUNS.due("isBalanced()", 1);
    }

    private static void grossLosses() {
        RUNS.sentence("In each event, the gross loss of a cover is the sum of the losses of its claims of the event, "
            + "but at most the event limit.");
        RUNS.desk("addCover(100, 99999, 0, 0)", "addCover(99999, 99999, 0, 0)", "addEvent(0)", "addEvent(0)");
        RUNS.due("gross(0, 0)", 0);
        RUNS.make("addClaim(0, 0, 60)", "addClaim(0, 0, 39)", "addClaim(0, 1, 7)", "addClaim(1, 0, 500)");
        RUNS.due("gross(0, 0)", 99);
        RUNS.make("addClaim(0, 0, 1)");
        RUNS.due("gross(0, 0)", 100);
        RUNS.make("addClaim(0, 0, 1)");
        RUNS.due("gross(0, 0)", 100);
        RUNS.due("gross(0, 1)", 7);
        RUNS.due("gross(1, 0)", 100);
        RUNS.due("gross(1, 1)", 0);
        RUNS.make("addClaim(1, 1, 99999)", "addClaim(1, 1, 99999)");
        RUNS.due("gross(1, 1)", 99999);
        // Each loss is cast, not the sum: 1.5 three times.
        RUNS.desk("addCover(100, 99999, 0, 0)", "addEvent(150)", "setIndex(100)", "addClaim(0, 0, 1)",
            "addClaim(0, 0, 1)", "addClaim(0, 0, 1)");
        RUNS.due("gross(0, 0)", 3);
    }

    private static void deductedAmounts() {
        RUNS.sentence("For each group, the deducted amount of the event is the deductible of the group, but at most "
            + "the sum of the gross losses of the covers of the group; it is shared out to these covers by their "
            + "gross losses.");
        RUNS.desk("addCover(40, 99999, 0, 0)", "addCover(60, 99999, 0, 0)", "addCover(30, 99999, 0, 1)",
            "addCover(20, 99999, 0, 2)", "addEvent(0)", "addEvent(1)");
        RUNS.make("addClaim(0, 0, 40)", "addClaim(0, 1, 70)", "addClaim(0, 2, 30)", "addClaim(0, 3, 20)",
            "addClaim(1, 1, 60)");
        RUNS.make("setDeductible(0, 99)");
        RUNS.due("account(2)", 99 + 60);
        RUNS.due("deducted(0, 0)", 40);
        RUNS.due("deducted(0, 1)", 59);
        RUNS.due("deducted(1, 1)", 60);
        RUNS.make("setDeductible(0, 100)");
        RUNS.due("deducted(0, 0)", 40);
        RUNS.due("deducted(0, 1)", 60);
        RUNS.make("setDeductible(0, 101)");
        RUNS.due("deducted(0, 0)", 40);
        RUNS.due("deducted(0, 1)", 60);
        RUNS.due("deducted(0, 2)", 0);
        RUNS.due("deducted(0, 3)", 0);
        RUNS.make("setDeductible(1, 29)", "setDeductible(2, 21)", "setDeductible(0, 99)");
        RUNS.due("paid(0, 0)", 0);
        RUNS.due("paid(0, 1)", 1);
        RUNS.due("paid(0, 2)", 1);
        RUNS.due("paid(0, 3)", 0);
        RUNS.due("deducted(0, 2)", 29);
        RUNS.due("deducted(0, 3)", 20);
        RUNS.due("deducted(1, 2)", 0);
        RUNS.due("account(2)", 99 + 60 + 29 + 20);
    }

    private static void yearLimits() {
        RUNS.sentence("A cover pays for the event its gross loss minus its share of the deducted amount, but at most "
            + "what is left of its year limit, where the events are taken in the order in which they happen.");
        RUNS.desk("addCover(1000, 100, 0, 0)", "setDeductible(0, 5)", "addEvent(20)", "addEvent(10)", "addEvent(20)");
        RUNS.make("addClaim(1, 0, 65)", "addClaim(0, 0, 44)");
        RUNS.due("paid(0, 0)", 39);
        RUNS.due("cover(0, 5)", 1);
        RUNS.make("addClaim(0, 0, 1)");
        RUNS.due("paid(0, 0)", 40);
        RUNS.due("cover(0, 5)", 0);
        RUNS.make("addClaim(0, 0, 1)");
        RUNS.due("paid(0, 0)", 40);
        RUNS.due("cover(0, 5)", 0);
        RUNS.make("addClaim(2, 0, 500)");
        RUNS.due("leftBefore(2, 0)", 0);
        RUNS.due("paid(2, 0)", 0);
        RUNS.make("setDay(2, 19)");
        RUNS.due("paid(2, 0)", 40);
        RUNS.due("paid(0, 0)", 0);
        RUNS.make("setDay(2, 9)");
        RUNS.due("paid(2, 0)", 100);
        RUNS.due("paid(1, 0)", 0);
    }

    private static void paymentsForClaims() {
        RUNS.sentence("What a cover pays for an event is shared out to its claims of the event by their losses; this "
            + "is what is paid for each claim.");
        RUNS.desk("addCover(99999, 23, 0, 0)", "addEvent(0)");
        for (int i = 0; i < 24; i++) {
            RUNS.make("addClaim(0, 0, 7)");
        }
        for (int i = 0; i < 24; i++) {
            RUNS.due("claim(" + i + ", 4)", i < 23 ? 1 : 0);
        }
        RUNS.make("removeClaim(23)");
        RUNS.due("claim(22, 4)", 1);
        // 10 by 1, 2 and 17: 0, 1 and 8 with the remainders 10, 0 and 10 of 20.
        RUNS.desk("addCover(99999, 10, 0, 0)", "addEvent(0)", "addClaim(0, 0, 1)", "addClaim(0, 0, 2)",
            "addClaim(0, 0, 17)");
        RUNS.due("claim(0, 4)", 1);
        RUNS.due("claim(1, 4)", 1);
        RUNS.due("claim(2, 4)", 8);
        // 2 by the losses 1 and 4 of the amounts 1 and 3: 0 and 1 with the remainders 2 and 3 of 5.
        RUNS.desk("addCover(99999, 2, 0, 0)", "addEvent(150)", "setIndex(100)", "addClaim(0, 0, 1)", "addClaim(0, 0, 3)");
        RUNS.due("claim(0, 4)", 0);
        RUNS.due("claim(1, 4)", 2);
        RUNS.desk("addCover(99999, 99999, 0, 0)", "addCover(10, 10, 0, 0)", "addEvent(364)", "addEvent(0)",
            "setIndex(100)");
        // Of 99999, two losses of 221297 each; claims of another cover or event between them have no part in it.
        RUNS.make("addClaim(0, 0, 99999)", "addClaim(0, 1, 5)", "addClaim(1, 1, 3)", "addClaim(0, 0, 99999)");
        RUNS.due("claim(0, 4)", 50000);
        RUNS.due("claim(3, 4)", 49999);
        RUNS.due("claim(1, 4)", 7);
        RUNS.due("claim(2, 4)", 3);
    }

    private static void rangesOfRecoveries() {
        RUNS.sentence("Each event has a recovery, an amount from 0 to 999999, which is 0 at first: money that comes "
            + "back from others.");
        RUNS.desk("addEvent(0)", "addEvent(1)");
        RUNS.due("event(0, 1)", 0);
        RUNS.due("setRecovery(0, 999999)", 0);
        RUNS.due("event(0, 1)", 999999);
        RUNS.due("event(1, 1)", 0);
        RUNS.due("setRecovery(0, 0)", 999999);
        RUNS.dueBeside("setRecovery(0, $)", -1, 1000000, Runs.BAD_VALUE);
        RUNS.due("setRecovery(1, 3)", 0);
        RUNS.make("undo()", "undo()", "undo()", "undo()");
        // The event is made anew, and its recovery with it.
        RUNS.make("addEvent(5)");
        RUNS.due("event(1, 1)", 0);
        RUNS.dueRead("r1=8;e6", 2);
        RUNS.due("event(2, 1)", 0);
    }

    private static void burdens() {
        RUNS.sentence("The burden of an event is the sum of what all covers pay for it, minus the recovery, or 0 if "
            + "this is negative.");
        RUNS.desk("addCover(30, 99999, 0, 0)", "addCover(99999, 99999, 0, 0)", "addEvent(0)", "addEvent(0)",
            "addClaim(0, 0, 50)", "addClaim(0, 1, 70)", "addClaim(1, 0, 20)");
        RUNS.due("event(0, 5)", 100);
        RUNS.make("setRecovery(0, 99)");
        RUNS.due("event(0, 5)", 1);
        RUNS.make("setRecovery(0, 100)");
        RUNS.due("event(0, 5)", 0);
        RUNS.make("setRecovery(0, 101)");
        RUNS.due("event(0, 5)", 0);
        RUNS.make("setRecovery(0, 999999)");
        RUNS.due("event(0, 5)", 0);
        RUNS.due("event(1, 5)", 20);
        RUNS.due("account(3)", 20);
        RUNS.due("account(1)", 120);
    }

    private static void numberOfLayers() {
        RUNS.sentence("There are at most 4 layers, numbered from 0 in the order in which they were added.");
        RUNS.desk();
        RUNS.due("layer(0, 0)", Runs.NO_SUCH_ELEMENT);
        for (int i = 0; i < 4; i++) {
            RUNS.due("count(1)", i);
            RUNS.due("addLayer(" + 100 * i + ", " + (i + 11) + ", " + (i + 21) + ", " + i + ")", i);
        }
        RUNS.due("addLayer(400, 15, 25, 0)", Runs.FULL);
        RUNS.due("count(1)", 4);
        RUNS.due("layer(4, 0)", Runs.NO_SUCH_ELEMENT);
        for (int i = 0; i < 4; i++) {
            RUNS.due("layer(" + i + ", 0)", 100 * i);
            RUNS.due("layer(" + i + ", 1)", i + 11);
            RUNS.due("layer(" + i + ", 2)", i + 21);
            RUNS.due("layer(" + i + ", 3)", i);
        }
        RUNS.make("undo()");
        RUNS.due("addLayer(400, 15, 25, 0)", 3);
        RUNS.due("layer(3, 0)", 400);
    }

    private static void rangesOfLayers() {
        RUNS.sentence("A layer has an attachment from 0 to 999999, a limit from 1 to 99999, a premium from 0 to "
            + "99999, and a number of reinstatements from 0 to 3.");
        RUNS.desk("addLayer(0, 1, 0, 0)", "addLayer(1, 99999, 99999, 3)", "addLayer(999999, 99999, 1, 1)");
        int[][] layers = {{0, 1, 0, 0}, {1, 99999, 99999, 3}, {999999, 99999, 1, 1}};
        for (int i = 0; i < 3; i++) {
            for (int what = 0; what < 4; what++) {
                RUNS.due("layer(" + i + ", " + what + ")", layers[i][what]);
            }
        }
        RUNS.desk();
        RUNS.dueBeside("addLayer($, 1, 0, 0)", -1, 1000000, Runs.BAD_VALUE);
        RUNS.dueBeside("addLayer(0, $, 0, 0)", 0, 100000, Runs.BAD_VALUE);
        RUNS.dueBeside("addLayer(0, 1, $, 0)", -1, 100000, Runs.BAD_VALUE);
        RUNS.dueBeside("addLayer(0, 1, 0, $)", -1, 4, Runs.BAD_VALUE);
        RUNS.due("count(1)", 0);
    }

    private static void beginningsOfLayers() {
        RUNS.sentence("A layer begins where the one before ends, or above: its attachment is at least the attachment "
            + "of the layer before plus its limit.");
        RUNS.desk("addLayer(100, 50, 0, 3)");
        RUNS.due("addLayer(0, 1, 0, 0)", Runs.STATE);
        RUNS.due("addLayer(100, 50, 0, 0)", Runs.STATE);
        RUNS.due("addLayer(149, 1, 0, 0)", Runs.STATE);
        RUNS.due("addLayer(150, 1, 0, 0)", 1);
        RUNS.due("addLayer(150, 1, 0, 0)", Runs.STATE);
        RUNS.due("addLayer(152, 7, 0, 0)", 2);
        RUNS.due("addLayer(158, 7, 0, 0)", Runs.STATE);
        RUNS.due("addLayer(999999, 99999, 0, 0)", 3);
        RUNS.make("undo()");
        RUNS.due("addLayer(159, 7, 0, 0)", 3);
        RUNS.desk("addLayer(999999, 1, 0, 0)");
        RUNS.due("addLayer(999999, 1, 0, 0)", Runs.STATE);
        RUNS.desk("addLayer(900000, 99998, 0, 0)");
        RUNS.due("addLayer(999997, 1, 0, 0)", Runs.STATE);
        RUNS.due("addLayer(999998, 1, 0, 0)", 1);
        RUNS.due("addLayer(999999, 1, 0, 0)", 2);
        RUNS.due("addLayer(999999, 1, 0, 0)", Runs.STATE);
    }

    private static void burdenParts() {
        RUNS.sentence("A layer bears of an event the part of the burden above its attachment, but at most its limit, "
            + "and at most what is left of its capacity, where the events are taken in the order in which they "
            + "happen.");
        int[] burdens = {99, 100, 101, 129, 130, 131, 149, 150, 151, 170};
        int[] first = {0, 0, 1, 29, 30, 30, 30, 30, 30, 30};
        int[] second = {0, 0, 0, 0, 0, 0, 0, 0, 1, 20};
        for (int i = 0; i < burdens.length; i++) {
            RUNS.desk("addCover(99999, 99999, 0, 0)", "addLayer(100, 30, 0, 3)", "addLayer(150, 99999, 0, 3)",
                "addEvent(0)", "addClaim(0, 0, " + burdens[i] + ")");
            RUNS.due("borne(0, 0)", first[i]);
            RUNS.due("borne(0, 1)", second[i]);
        }
        RUNS.desk("addCover(99999, 99999, 0, 0)", "addLayer(0, 50, 0, 0)", "addEvent(20)", "addEvent(10)");
        RUNS.make("addClaim(1, 0, 30)", "addClaim(0, 0, 19)");
        RUNS.due("borne(0, 0)", 19);
        RUNS.due("layer(0, 5)", 1);
        RUNS.make("addClaim(0, 0, 1)");
        RUNS.due("borne(0, 0)", 20);
        RUNS.due("layer(0, 5)", 0);
        RUNS.make("addClaim(0, 0, 1)");
        RUNS.due("borne(0, 0)", 20);
        RUNS.due("layer(0, 5)", 0);
        RUNS.make("setDay(1, 20)");
        RUNS.due("borne(0, 0)", 21);
        RUNS.due("borne(1, 0)", 29);
    }

    private static void capacities() {
        RUNS.sentence("The capacity is the product of the limit and the number of reinstatements plus 1, that is, the "
            + "limit itself without reinstatements, twice the limit with one, and so on.");
        for (int times = 0; times <= 3; times++) {
            RUNS.desk("addCover(99999, 99999, 0, 0)", "addLayer(10, 20, 0, " + times + ")");
            RUNS.due("layer(0, 5)", 20 * (times + 1));
            for (int i = 0; i < 6; i++) {
                RUNS.make("addEvent(" + i + ")", "addClaim(" + i + ", 0, 500)");
                RUNS.due("borne(" + i + ", 0)", i <= times ? 20 : 0);
            }
            RUNS.due("layer(0, 4)", 20 * (times + 1));
            RUNS.due("layer(0, 5)", 0);
        }
        RUNS.desk("addLayer(0, 99999, 0, 3)");
        RUNS.due("layer(0, 5)", 399996);
    }

    private static void reinstatedAmounts() {
        RUNS.sentence("The reinstated amount of a layer is what it bears in all events together, but at most the limit "
            + "times the number of reinstatements;");
        RUNS.desk("addCover(99999, 99999, 0, 0)", "addLayer(0, 20, 100, 2)", "addEvent(0)", "addEvent(1)",
            "addEvent(2)");
        RUNS.due("layer(0, 6)", 0);
        RUNS.make("addClaim(0, 0, 20)", "addClaim(1, 0, 19)");
        RUNS.due("layer(0, 6)", 39);
        RUNS.make("addClaim(1, 0, 1)");
        RUNS.due("layer(0, 6)", 40);
        RUNS.make("addClaim(2, 0, 1)");
        RUNS.due("layer(0, 4)", 41);
        RUNS.due("layer(0, 6)", 40);
        RUNS.desk("addCover(99999, 99999, 0, 0)", "addLayer(0, 20, 100, 0)", "addEvent(0)", "addClaim(0, 0, 20)");
        RUNS.due("layer(0, 4)", 20);
        RUNS.due("layer(0, 6)", 0);
        RUNS.due("layer(0, 7)", 0);
    }

    private static void reinstatementPremiums() {
        RUNS.sentence("the reinstatement premium is the premium times the reinstated amount divided by the limit, "
            + "rounded down.");
        RUNS.desk("addCover(99999, 99999, 0, 0)", "addLayer(0, 3, 2, 1)", "addEvent(0)", "addClaim(0, 0, 1)");
        RUNS.due("layer(0, 7)", 0);
        RUNS.make("addClaim(0, 0, 1)");
        RUNS.due("layer(0, 7)", 1);
        RUNS.make("addClaim(0, 0, 1)");
        RUNS.due("layer(0, 7)", 2);
        RUNS.desk("addCover(99999, 99999, 0, 0)", "addCover(99999, 99999, 0, 0)", "addCover(99999, 99999, 0, 0)",
            "addCover(99999, 99999, 0, 0)", "addLayer(0, 99999, 99999, 3)");
        for (int i = 0; i < 4; i++) {
            RUNS.make("addEvent(0)", "addClaim(" + i + ", " + i + ", 99999)");
        }
        RUNS.due("layer(0, 4)", 399996);
        RUNS.due("layer(0, 6)", 299997);
        RUNS.due("layer(0, 7)", 299997);
        RUNS.due("account(7)", 99999 + 299997);
        RUNS.desk("addCover(99999, 99999, 0, 0)", "addLayer(0, 99998, 0, 3)", "addEvent(0)", "addClaim(0, 0, 99998)");
        RUNS.due("layer(0, 7)", 0);
    }

    private static void retainedParts() {
        RUNS.sentence("What no layer bears of the burden of an event is retained.");
        RUNS.desk("addCover(99999, 99999, 0, 0)", "addEvent(0)");
        RUNS.due("event(0, 6)", 0);
        RUNS.make("addClaim(0, 0, 100)");
        RUNS.due("event(0, 6)", 100);
        RUNS.make("addLayer(0, 99, 0, 0)");
        RUNS.due("event(0, 6)", 1);
        RUNS.make("addLayer(99, 1, 0, 0)");
        RUNS.due("event(0, 6)", 0);
        RUNS.make("addClaim(0, 0, 1)");
        RUNS.due("event(0, 6)", 1);
        RUNS.make("setRecovery(0, 102)");
        RUNS.due("event(0, 6)", 0);
    }

    private static void returnedParts() {
        RUNS.sentence("What a recovery gives back to a layer is what the layer would bear of the event if the recovery "
            + "of this event alone were 0, all else being as it is, minus what it bears;");
        RUNS.desk("addCover(99999, 99999, 0, 0)", "addLayer(10, 20, 0, 0)", "addLayer(50, 20, 0, 0)", "addEvent(5)",
            "addEvent(4)", "addClaim(0, 0, 60)", "addClaim(1, 0, 25)");
        RUNS.due("returned(0, 0)", 0);
        RUNS.due("returned(0, 1)", 0);
        RUNS.make("setRecovery(0, 10)");
        RUNS.due("returned(0, 1)", 10);
        RUNS.make("setRecovery(0, 999999)");
        // The earlier event has taken 15 of the capacity of 20, and goes on to do so.
        RUNS.due("returned(0, 0)", 5);
        RUNS.due("returned(0, 1)", 10);
        RUNS.make("setRecovery(1, 999999)");
        RUNS.due("returned(0, 0)", 20);
        RUNS.due("returned(1, 0)", 15);
        RUNS.due("event(0, 1)", 999999);
        RUNS.due("event(1, 1)", 999999);
        RUNS.sentence("what it gives back to the retained part is what would be retained of the event if its recovery "
            + "were 0, minus what is retained.");
        RUNS.due("returned(0, 2)", 30);
        RUNS.due("returned(1, 2)", 10);
        RUNS.make("setRecovery(1, 0)");
        RUNS.due("returned(0, 2)", 45);
        RUNS.due("returned(1, 2)", 0);
        RUNS.make("setRecovery(0, 59)");
        RUNS.due("returned(0, 2)", 44);
        RUNS.due("borne(0, 0)", 0);
    }

    private static void reasons() {
        RUNS.sentence("1, nothing is paid for it and its cover has nothing left of its year limit when the event "
            + "happens;");
        RUNS.desk("addCover(100, 100, 0, 0)", "addEvent(1)", "addEvent(2)", "addClaim(0, 0, 99)", "addClaim(1, 0, 1)");
        RUNS.due("claim(1, 5)", 0);
        RUNS.make("addClaim(0, 0, 1)");
        RUNS.due("claim(1, 5)", 1);
        RUNS.make("setDeductible(0, 1)", "addClaim(0, 0, 1)");
        RUNS.due("leftBefore(1, 0)", 1);
        RUNS.due("claim(1, 5)", 2);
        // With nothing left, and with a deductible that alone would take all.
        RUNS.desk("addCover(100, 1, 0, 0)", "setDeductible(0, 9)", "addEvent(1)", "addEvent(2)", "addClaim(0, 0, 10)",
            "addClaim(1, 0, 9)");
        RUNS.due("claim(1, 5)", 1);
        RUNS.make("setDay(1, 0)");
        RUNS.due("claim(1, 5)", 2);
        RUNS.sentence("2, nothing is paid for it;");
        RUNS.desk("addCover(99999, 1, 0, 0)", "addEvent(0)", "addClaim(0, 0, 5)", "addClaim(0, 0, 5)");
        RUNS.due("claim(0, 4)", 1);
        RUNS.due("claim(0, 5)", 3);
        RUNS.due("claim(1, 4)", 0);
        RUNS.due("claim(1, 5)", 2);
        RUNS.desk("addCover(99999, 10, 0, 0)", "addEvent(0)", "addClaim(0, 0, 5)", "setDeductible(0, 4)");
        RUNS.due("claim(0, 5)", 5);
        RUNS.make("setDeductible(0, 5)");
        RUNS.due("claim(0, 5)", 2);
        RUNS.sentence("3, the cover pays less than the gross loss minus its share of the deducted amount;");
        RUNS.desk("addCover(50, 40, 0, 0)", "setDeductible(0, 9)", "addEvent(0)", "addClaim(0, 0, 49)");
        RUNS.due("claim(0, 5)", 5);
        RUNS.make("addClaim(0, 0, 1)");
        RUNS.due("paid(0, 0)", 40);
        RUNS.due("claim(0, 5)", 3);
        RUNS.make("addClaim(0, 0, 1)");
        RUNS.due("claim(0, 5)", 3);
        RUNS.sentence("4, the gross loss is less than the sum of the losses;");
        RUNS.desk("addCover(50, 99, 0, 0)", "addEvent(0)", "addClaim(0, 0, 49)", "addClaim(0, 0, 1)");
        RUNS.due("claim(1, 5)", 0);
        RUNS.make("addClaim(0, 0, 1)");
        RUNS.due("claim(0, 5)", 4);
        RUNS.make("setDeductible(0, 1)");
        RUNS.due("claim(0, 5)", 4);
        RUNS.make("addEvent(1)", "addClaim(1, 0, 20)");
        RUNS.due("claim(3, 5)", 5);
        RUNS.make("removeClaim(3)");
        RUNS.sentence("5, the share of the cover of the deducted amount is greater than 0;");
        RUNS.make("removeClaim(2)");
        RUNS.due("claim(0, 5)", 5);
        RUNS.make("setDeductible(0, 0)");
        RUNS.due("claim(0, 5)", 0);
        // The deductible of 1 is shared out to the first cover alone.
        RUNS.desk("addCover(50, 99, 0, 2)", "addCover(50, 99, 0, 2)", "setDeductible(2, 1)", "addEvent(0)",
            "addClaim(0, 0, 9)", "addClaim(0, 1, 9)");
        RUNS.due("claim(0, 5)", 5);
        RUNS.due("claim(1, 5)", 0);
        RUNS.make("addEvent(0)", "addClaim(1, 1, 9)");
        RUNS.due("claim(2, 5)", 5);
    }

    private static void textsOfEntries() {
        RUNS.sentence("A text consists of one or more entries with a \";\" between two of them.");
        RUNS.desk();
        RUNS.dueFault("", Runs.BAD_VALUE, 0);
        RUNS.dueFault("e1", 1, Runs.NONE);
        RUNS.dueFault("e1;e2", 2, Runs.NONE);
        RUNS.dueFault(";", Runs.BAD_VALUE, 0);
        RUNS.dueFault(";e1", Runs.BAD_VALUE, 0);
        RUNS.dueFault("e1;", Runs.BAD_VALUE, 3);
        RUNS.dueFault("e1;;e2", Runs.BAD_VALUE, 3);
        RUNS.dueFault("e1e2", Runs.BAD_VALUE, 2);
        RUNS.dueFault("e1,e2", Runs.BAD_VALUE, 2);
        // Texts of 60 characters.
        RUNS.dueRead("r0=1;r0=2;r0=3;r0=4;r0=5;r0=6;r0=7;r0=8;r0=9;r0=10;r0=000011", 11);
        RUNS.due("event(0, 1)", 11);
        RUNS.dueRead("r0=1;r0=2;r0=3;r0=4;r0=5;r0=6;r0=7;r0=8;r0=9;r0=10;r0=00011;", Runs.BAD_VALUE);
        RUNS.due("faultPosition()", 60);
        RUNS.dueRead("e1;e1;e1;e1;e1;e1;e1;e1;e1;e1;e1;e1;e1;e1;e1;e1;e1;e1;e1;e1;", Runs.BAD_VALUE);
        RUNS.due("faultPosition()", 60);
        RUNS.dueRead("e1;e1;e1;e1;e1;e1;e1;e1;e1;e1;e1;e1;e1;e1;e1;e1;e1;e1;e1;e1x", Runs.BAD_VALUE);
        RUNS.due("faultPosition()", 59);
        RUNS.dueRead("e1;e1;e1;e1;e1;e1;e1;e1;e1;e1;e1;e1;e1;e1;e1;e1;e1;e1;e1;e01", Runs.STATE);
        RUNS.due("faultPosition()", 15);
    }

    private static void textsOfEachKind() {
        RUNS.sentence("An entry is e followed by a day, and adds an event; or c followed by an event, a cover and an "
            + "amount, with \",\" between two of them, and adds a claim; or r followed by an event, \"=\" and an "
            + "amount, and sets a recovery.");
        RUNS.desk("addCover(99999, 99999, 0, 0)", "addCover(99999, 99999, 0, 1)", "addEvent(3)");
        RUNS.dueRead("e364;c1,0,99999;r1=999999;e0;c0,1,1;r0=0", 6);
        RUNS.due("event(1, 0)", 364);
        RUNS.due("event(2, 0)", 0);
        RUNS.due("claim(0, 0)", 1);
        RUNS.due("claim(0, 1)", 0);
        RUNS.due("claim(0, 2)", 99999);
        RUNS.due("claim(1, 0)", 0);
        RUNS.due("claim(1, 1)", 1);
        RUNS.due("claim(1, 2)", 1);
        RUNS.due("event(1, 1)", 999999);
        RUNS.due("event(0, 1)", 0);
        String[] texts = {"E1", "1", "d1", "f1", "b1", "s1", "e=1", "e,1", "c=1,0,1", "c1=0,1", "c1,0=1", "c1,0,1,", "c1,0",
            "c1", "r1,1", "r1;1", "r1", "r=1", "r1==1", "e1=1", "e-1", "e+1", "r0=-1"};
        int[] faults = {0, 0, 0, 0, 0, 0, 1, 1, 1, 2, 4, 6, 4, 2, 2, 2, 2, 1, 3, 2, 1, 1, 3};
        for (int i = 0; i < texts.length; i++) {
            RUNS.dueFault(texts[i], Runs.BAD_VALUE, faults[i]);
        }
        RUNS.due("count(2)", 3);
        RUNS.due("count(3)", 2);
    }

    private static void digitsOfNumbers() {
        RUNS.sentence("All numbers have 1 to 6 digits, also with zeros at the front, as in \"e40;c0,1,2500;r0=300\".");
        RUNS.desk("addCover(99999, 99999, 0, 0)", "addCover(99999, 99999, 0, 0)");
        RUNS.dueRead("e40;c0,1,2500;r0=300", 3);
        RUNS.dueFault("e000364;c000001,000001,099999;r000001=000300", 3, Runs.NONE);
        RUNS.due("event(1, 0)", 364);
        RUNS.due("claim(1, 0)", 1);
        RUNS.due("claim(1, 1)", 1);
        RUNS.due("claim(1, 2)", 99999);
        RUNS.due("event(1, 1)", 300);
        RUNS.dueFault("e0", 1, Runs.NONE);
        RUNS.dueFault("e9", 1, Runs.NONE);
        RUNS.due("event(2, 0)", 0);
        RUNS.due("event(3, 0)", 9);
        String[] none = {"e", "c", "c0,", "c0,0,", "r", "r0="};
        String[] seven = {"e0000040", "c0000000,0,1", "c0,0000000,1", "c0,0,0000001", "r0000000=1", "r0=0000001"};
        int[] seventh = {7, 7, 9, 11, 7, 9};
        for (int i = 0; i < none.length; i++) {
            RUNS.dueFault(none[i], Runs.BAD_VALUE, none[i].length());
            RUNS.dueFault(none[i] + ";e1", Runs.BAD_VALUE, none[i].length());
            RUNS.dueFault(seven[i], Runs.BAD_VALUE, seventh[i]);
        }
        RUNS.dueFault("r0=999999", 1, Runs.NONE);
        RUNS.due("event(0, 1)", 999999);
        RUNS.dueFault("e999999", Runs.STATE, 0);
        // "/" and ":" stand beside the digits.
        RUNS.dueFault("e/", Runs.BAD_VALUE, 1);
        RUNS.dueFault("e:", Runs.BAD_VALUE, 1);
        RUNS.dueFault("e1/", Runs.BAD_VALUE, 2);
        RUNS.dueFault("e1:", Runs.BAD_VALUE, 2);
    }

    private static void faultPositions() {
        RUNS.sentence("The fault position of a text is the index of the first character that cannot continue a text, "
            + "or the length of the text if it ends too early.");
        RUNS.desk("addCover(9, 9, 0, 0)", "addEvent(0)");
        String text = "e12;c0,0,5;r0=7";
        boolean[] isWhole = new boolean[text.length() + 1];
        isWhole[2] = true;
        isWhole[3] = true;
        isWhole[10] = true;
        isWhole[15] = true;
        int[] entries = {0, 0, 1, 1, 0, 0, 0, 0, 0, 0, 2, 0, 0, 0, 0, 3};
        for (int length = 0; length <= text.length(); length++) {
            String start = text.substring(0, length);
            if (isWhole[length]) {
                RUNS.dueFault(start, entries[length], Runs.NONE);
            } else {
                RUNS.dueFault(start, Runs.BAD_VALUE, length);
            }
            RUNS.dueFault(start + "x", Runs.BAD_VALUE, length);
            RUNS.dueFault(start + "!9", Runs.BAD_VALUE, length);
        }
        RUNS.dueFault("x;y", Runs.BAD_VALUE, 0);
        RUNS.dueFault("e1;x;e2;y", Runs.BAD_VALUE, 3);
        // A fault behind an entry that would be refused.
        RUNS.dueFault("e365;x", Runs.BAD_VALUE, 5);
    }

    private static void refusedEntries() {
        RUNS.sentence("An entry is refused if the call for it, made after the entries before it, would return an error "
            + "code.");
        RUNS.desk("addCover(9, 9, 0, 0)");
        RUNS.dueFault("c0,0,1;e0", Runs.STATE, 0);
        RUNS.dueFault("r0=1;e0", Runs.STATE, 0);
        RUNS.dueFault("e0;c1,0,1", Runs.STATE, 3);
        RUNS.dueFault("e0;c0,1,1", Runs.STATE, 3);
        RUNS.dueFault("e0;c0,0,0", Runs.STATE, 3);
        RUNS.dueFault("e0;c0,0,100000", Runs.STATE, 3);
        RUNS.dueFault("e0;r1=1", Runs.STATE, 3);
        RUNS.dueFault("e0;e364;e365;e366", Runs.STATE, 8);
        RUNS.due("count(2)", 0);
        RUNS.dueFault("e0;c0,0,1;r0=1", 3, Runs.NONE);
        RUNS.dueFault("e1;e2;e3;e4;e5;e6;e7;e8;r0=2", Runs.STATE, 21);
        RUNS.dueFault("e1;e2;e3;e4;e5;e6;e7;c7,0,2", 8, Runs.NONE);
        RUNS.dueFault("r0=5;e0", Runs.STATE, 5);
        RUNS.due("event(0, 1)", 1);
        for (int i = 2; i < 22; i++) {
            RUNS.make("addClaim(0, 0, 1)");
        }
        RUNS.dueFault("c0,0,3;c0,0,4;c0,0,5", Runs.STATE, 14);
        RUNS.due("count(3)", 22);
        RUNS.dueFault("c0,0,3;c7,0,4", 2, Runs.NONE);
        RUNS.due("claim(23, 0)", 7);
        RUNS.dueFault("c0,0,5", Runs.STATE, 0);
    }

    private static void trays() {
        RUNS.sentence("There are three trays with 4 places each, numbered from 0; all places are empty at first.");
        RUNS.desk("addCover(9, 8, 7, 1)");
        for (int tray = 0; tray < 3; tray++) {
            for (int place = 0; place < 4; place++) {
                RUNS.due("filed(" + tray + ", " + place + ")", Runs.NONE);
                RUNS.due("use(" + tray + ", " + place + ")", Runs.NONE);
            }
            RUNS.dueBeside("filed(" + tray + ", $)", -1, 4, Runs.NO_SUCH_ELEMENT);
        }
        for (int place = 0; place < 4; place++) {
            RUNS.dueBeside("filed($, " + place + ")", -1, 3, Runs.NO_SUCH_ELEMENT);
        }
        for (int place = 3; place >= 0; place--) {
            RUNS.due("file(0, " + place + ", 0, 0)", 4 - place);
        }
        RUNS.due("file(0, 2, 0, 0)", 4);
        for (int place = 0; place < 4; place++) {
            RUNS.due("filed(0, " + place + ")", 0);
            RUNS.due("filed(1, " + place + ")", Runs.NONE);
            RUNS.due("filed(2, " + place + ")", Runs.NONE);
        }
        RUNS.sentence("Tray 0 holds covers, tray 1 layers, tray 2 both.");
        RUNS.desk("addCover(9, 8, 7, 1)", "addLayer(1, 2, 3, 0)");
        RUNS.due("file(0, 0, 1, 0)", Runs.UNLIKE);
        RUNS.due("file(1, 0, 0, 0)", Runs.UNLIKE);
        RUNS.due("filed(0, 0)", Runs.NONE);
        RUNS.due("filed(1, 0)", Runs.NONE);
        RUNS.due("file(0, 0, 0, 0)", 1);
        RUNS.due("file(1, 0, 1, 0)", 1);
        RUNS.due("file(2, 0, 0, 0)", 1);
        RUNS.due("file(2, 1, 1, 0)", 2);
        RUNS.due("file(2, 0, 1, 0)", 2);
        RUNS.due("filed(2, 0)", 1);
        RUNS.due("file(0, 0, 1, 0)", Runs.UNLIKE);
        RUNS.due("filed(0, 0)", 0);
    }

    private static void copiesInTrays() {
        RUNS.sentence("What is filed is a copy of the cover or layer as it is then.");
        RUNS.desk("addCover(9, 8, 7, 1)", "addLayer(1, 2, 3, 2)", "file(0, 3, 0, 0)", "file(2, 3, 1, 0)", "undo()", "undo()");
        RUNS.make("addCover(90, 80, 70, 2)", "addLayer(0, 1, 30, 3)", "file(2, 0, 0, 0)");
        RUNS.due("use(0, 3)", 1);
        RUNS.due("use(2, 3)", 1);
        int[] cover = {9, 8, 7, 1};
        int[] layer = {1, 2, 3, 2};
        for (int what = 0; what < 4; what++) {
            RUNS.due("cover(1, " + what + ")", cover[what]);
            RUNS.due("layer(1, " + what + ")", layer[what]);
        }
        // The copy of the cover in a tray is used again, in place of another one.
        RUNS.make("file(2, 3, 0, 1)");
        RUNS.due("use(2, 3)", 2);
        RUNS.due("cover(2, 0)", 9);
        RUNS.due("use(2, 0)", 3);
        RUNS.due("cover(3, 0)", 90);
        // Each place holds another copy.
        RUNS.desk("save()");
        for (int i = 0; i < 6; i++) {
            RUNS.make("addCover(" + (i + 1) + ", 1, 1, 1)");
        }
        for (int i = 0; i < 4; i++) {
            RUNS.make("addLayer(" + (10 * i + 7) + ", 1, 1, 1)", "file(0, " + i + ", 0, " + i + ")",
                "file(1, " + i + ", 1, " + i + ")", "file(2, " + i + ", " + i % 2 + ", " + (i == 2 ? 5 : i) + ")");
        }
        RUNS.make("restore()");
        for (int place = 0; place < 4; place++) {
            dueUse(0, place, "cover(0, 0)", place + 1);
            dueUse(1, place, "layer(0, 0)", 10 * place + 7);
        }
        dueUse(2, 0, "cover(0, 0)", 1);
        dueUse(2, 1, "layer(0, 0)", 17);
        dueUse(2, 2, "cover(0, 0)", 6);
        dueUse(2, 3, "layer(0, 0)", 37);
    }

    private static void dueUse(int tray, int place, String question, int answer) {
        RUNS.due("use(" + tray + ", " + place + ")", 0);
        RUNS.due(question, answer);
        RUNS.make("undo()");
    }

    private static void changes() {
        RUNS.sentence("The calls addCover, addLayer, addEvent, addClaim, removeClaim, setDay, setDeductible, setIndex, "
            + "setRecovery, read and use that return no error code are changes, also if nothing changes;");
        String[] calls = {"addCover(1, 1, 1, 1)", "addLayer(500, 1, 1, 1)", "addEvent(0)", "addClaim(0, 0, 1)",
            "removeClaim(0)", "setDay(0, 7)", "setDeductible(0, 3)", "setIndex(0)", "setIndex(2)", "setRecovery(0, 0)",
            "setRecovery(0, 4)", "use(0, 0)", "use(1, 0)", "read()"};
        for (String call : calls) {
            RUNS.desk("addCover(9, 9, 9, 0)", "addLayer(10, 9, 9, 0)", "addEvent(7)", "file(0, 0, 0, 0)",
                "file(1, 0, 1, 0)", "undo()", "undo()", "undo()", "addEvent(7)", "addCover(50, 90, 9, 0)",
                "addClaim(0, 0, 40)", "setDeductible(0, 3)");
            RUNS.write("r0=0");
            RUNS.make(call);
            RUNS.due("undo()", 4);
            RUNS.due("deductible(0)", 3);
            RUNS.due("undo()", 3);
            RUNS.due("deductible(0)", 0);
        }
        RUNS.sentence("a text that is read is one change, however many entries it has.");
        RUNS.desk("addEvent(1)");
        RUNS.dueRead("e2", 1);
        RUNS.dueRead("e3;e4;e5;r0=6;r1=7;r2=8;r3=9", 7);
        RUNS.due("undo()", 2);
        RUNS.due("count(2)", 2);
        RUNS.due("event(0, 1)", 0);
        RUNS.due("undo()", 1);
        RUNS.due("count(2)", 1);
    }

    private static void changesThatAreNone() {
        RUNS.sentence("The calls addCover, addLayer, addEvent, addClaim, removeClaim, setDay, setDeductible, setIndex, "
            + "setRecovery, read and use that return no error code are changes");
        RUNS.desk("addCover(9, 9, 9, 0)", "addEvent(0)");
        String[] questions = {"append(101)", "faultPosition()", "count(0)", "cover(0, 0)", "deductible(0)", "event(0, 0)",
            "eventAt(0)", "gross(0, 0)", "deducted(0, 0)", "paid(0, 0)", "leftBefore(0, 0)", "returned(0, 0)", "place(0)",
            "worst()", "account(0)", "result()", "ratioBits()", "isBalanced()", "paidIf(0, 1)", "leastLimit(0)",
            "file(0, 0, 0, 0)", "filed(0, 0)", "save()"};
        for (String question : questions) {
            RUNS.call(question);
        }
        RUNS.due("undo()", 1);
        RUNS.due("count(2)", 0);
        RUNS.due("undo()", 0);
        RUNS.due("count(0)", 0);
        RUNS.due("undo()", Runs.NONE);
    }

    private static void latestChanges() {
        RUNS.sentence("The latest 6 changes can be undone, the latest first.");
        for (int changes = 0; changes <= 9; changes++) {
            RUNS.desk();
            for (int i = 1; i <= changes; i++) {
                RUNS.make("setIndex(" + i + ")");
            }
            int undone = 0;
            for (int left = Math.min(changes, 6) - 1; left >= 0; left--) {
                RUNS.due("undo()", left);
                undone++;
                RUNS.due("count(5)", changes - undone);
            }
            RUNS.due("undo()", Runs.NONE);
            RUNS.due("count(5)", changes - undone);
        }
        // Behind an undo there are new changes.
        RUNS.desk("setIndex(1)", "setIndex(2)", "setIndex(3)", "undo()", "setIndex(4)");
        RUNS.due("undo()", 2);
        RUNS.due("count(5)", 2);
        RUNS.due("undo()", 1);
        RUNS.due("count(5)", 1);
        RUNS.make("setIndex(5)", "setIndex(6)", "setIndex(7)", "setIndex(8)", "setIndex(9)", "setIndex(10)");
        int[] rates = {9, 8, 7, 6, 5, 1};
        for (int i = 0; i < 6; i++) {
            RUNS.due("undo()", 5 - i);
            RUNS.due("count(5)", rates[i]);
        }
        RUNS.due("undo()", Runs.NONE);
    }

    private static void traysAndHistory() {
        RUNS.sentence("Trays are not affected.");
        RUNS.desk("addCover(9, 8, 7, 1)", "addLayer(1, 2, 3, 2)", "file(0, 0, 0, 0)", "file(2, 0, 1, 0)", "save()");
        RUNS.make("undo()", "undo()");
        RUNS.due("filed(0, 0)", 0);
        RUNS.due("filed(2, 0)", 1);
        RUNS.due("use(0, 0)", 0);
        RUNS.make("file(2, 1, 0, 0)", "undo()");
        RUNS.due("filed(2, 1)", 0);
        RUNS.make("restore()");
        RUNS.due("filed(0, 0)", 0);
        RUNS.due("filed(2, 0)", 1);
        RUNS.due("filed(2, 1)", 0);
        RUNS.due("use(2, 1)", 1);
        RUNS.due("cover(1, 0)", 9);
    }

    private static void severalErrorCodes() {
        RUNS.sentence("If several error codes are possible, the one that is mentioned first is returned, unless the order "
            + "is described.");
        RUNS.desk("addCover(5, 5, 0, 0)", "addLayer(0, 10, 0, 0)", "file(1, 2, 1, 0)", "addLayer(10, 10, 0, 0)",
            "addLayer(20, 10, 0, 0)", "addLayer(30, 10, 0, 0)");
        RUNS.due("addLayer(39, 10, 0, 0)", Runs.STATE);
        RUNS.due("addLayer(39, 10, 0, 4)", Runs.BAD_VALUE);
        RUNS.due("use(1, 2)", Runs.STATE);
        RUNS.due("file(1, 2, 0, 1)", Runs.NO_SUCH_ELEMENT);
        RUNS.due("file(0, 2, 1, 4)", Runs.NO_SUCH_ELEMENT);
        RUNS.due("file(0, 4, 2, 4)", Runs.NO_SUCH_ELEMENT);
        RUNS.due("file(0, 2, 2, 4)", Runs.BAD_VALUE);
        RUNS.due("event(0, 8)", Runs.NO_SUCH_ELEMENT);
        RUNS.due("paidIf(0, 365)", Runs.NO_SUCH_ELEMENT);
        RUNS.due("addClaim(0, 0, 0)", Runs.NO_SUCH_ELEMENT);
        RUNS.dueFault("e365;", Runs.BAD_VALUE, 5);
    }

    private static void latestCall() {
        RUNS.sentence("An object is used for at most 512 calls after it has been made;");
        RUNS.desk("addCover(99999, 99999, 0, 0)", "addEvent(0)");
        for (int i = 0; i < 501; i++) {
            RUNS.make("setDay(0, " + i % 365 + ")");
        }
        RUNS.make("addClaim(0, 0, 77)", "undo()", "undo()", "undo()", "undo()", "undo()", "undo()");
        RUNS.due("event(0, 0)", 130);
        // This is call 512.
        RUNS.due("undo()", Runs.NONE);
    }
}
