/** A desk for insurance claims of one year, as ../shared/DOC.md describes it. */
public final class LayeredClaims {
    public static final int NO_SUCH_ELEMENT = -1;
    public static final int BAD_VALUE = -2;
    public static final int FULL = -3;
    public static final int NONE = -4;
    public static final int STATE = -5;
    public static final int UNLIKE = -6;

    private static final int MOST_COVERS = 6;
    private static final int MOST_LAYERS = 4;
    private static final int MOST_EVENTS = 8;
    private static final int MOST_CLAIMS = 24;
    private static final int GROUPS = 3;
    private static final int MOST_AMOUNT = 99999;
    private static final int MOST_HIGH_AMOUNT = 999999;
    private static final int LAST_DAY = 364;
    private static final int MOST_RATE = 100;
    private static final int MOST_REINSTATEMENTS = 3;
    private static final int MOST_UNDOS = 6;
    private static final int RESULT_BASE = 10000000;
    private static final int COVER = 0;
    private static final int LAYER = 1;

    private final Year year = new Year();
    private final Book book = year.book;
    private final Book savedBook = new Book();
    private final History history = new History();
    private final Text text = new Text();
    private final Trays trays = new Trays();
    private boolean hasSaved;
    private int latestFault = NONE;

    public LayeredClaims() {
    }

    public int addCover(int eventLimit, int yearLimit, int premium, int group) {
        history.mark(book);
        return changed(book.insertCover(eventLimit, yearLimit, premium, group));
    }

    public int addLayer(int attachment, int limit, int premium, int reinstatements) {
        history.mark(book);
        return changed(book.insertLayer(attachment, limit, premium, reinstatements));
    }

    public int addEvent(int day) {
        history.mark(book);
        return changed(book.insertEvent(day));
    }

    public int addClaim(int event, int cover, int amount) {
        history.mark(book);
        return changed(book.insertClaim(event, cover, amount));
    }

    public int removeClaim(int claim) {
        history.mark(book);
        return changed(book.dropClaim(claim));
    }

    public int setDay(int event, int day) {
        history.mark(book);
        return changed(book.changeDay(event, day));
    }

    public int setDeductible(int group, int deductible) {
        history.mark(book);
        return changed(book.changeDeductible(group, deductible));
    }

    public int setIndex(int rate) {
        history.mark(book);
        return changed(book.changeRate(rate));
    }

    public int setRecovery(int event, int amount) {
        history.mark(book);
        return changed(book.changeRecovery(event, amount));
    }

    public int append(int packed) {
        return text.extend(packed);
    }

    public int read() {
        boolean isWhole = text.scan();
        text.clear();
        if (!isWhole) {
            latestFault = text.at;
            return BAD_VALUE;
        }
        history.mark(book);
        for (int i = 0; i < text.entries; i++) {
            if (makeEntry(i) < 0) {
                history.returnToMark(book);
                latestFault = text.starts[i];
                return STATE;
            }
        }
        latestFault = NONE;
        return changed(text.entries);
    }

    public int faultPosition() {
        return latestFault;
    }

    public int undo() {
        return history.goBack(book);
    }

    public int count(int what) {
        switch (what) {
            case 0: return book.covers;
            case 1: return book.layers;
            case 2: return book.events;
            case 3: return book.claims;
            case 4: return text.length;
            case 5: return book.rate;
            default: return BAD_VALUE;
        }
    }

    public int cover(int cover, int what) {
        if (!book.hasCover(cover)) {
            return NO_SUCH_ELEMENT;
        }
        year.reckon();
        switch (what) {
            case 0: return book.eventLimits[cover];
            case 1: return book.yearLimits[cover];
            case 2: return book.coverPremiums[cover];
            case 3: return book.coverGroups[cover];
            case 4: return book.yearLimits[cover] - year.yearLefts[cover];
            case 5: return year.yearLefts[cover];
            default: return BAD_VALUE;
        }
    }

    public int layer(int layer, int what) {
        if (!book.hasLayer(layer)) {
            return NO_SUCH_ELEMENT;
        }
        year.reckon();
        switch (what) {
            case 0: return book.attachments[layer];
            case 1: return book.layerLimits[layer];
            case 2: return book.layerPremiums[layer];
            case 3: return book.reinstatements[layer];
            case 4: return year.borneByLayer(layer);
            case 5: return year.capacityLefts[layer];
            case 6: return year.reinstatedAmount(layer);
            case 7: return year.reinstatementPremium(layer);
            default: return BAD_VALUE;
        }
    }

    public int deductible(int group) {
        return isWithin(group, 0, GROUPS - 1) ? book.deductibles[group] : NO_SUCH_ELEMENT;
    }

    public int event(int event, int what) {
        if (!book.hasEvent(event)) {
            return NO_SUCH_ELEMENT;
        }
        year.reckon();
        switch (what) {
            case 0: return book.days[event];
            case 1: return book.recoveries[event];
            case 2: return book.claimsOfEvent(event);
            case 3: return year.lossOfEvent(event);
            case 4: return year.paidForEvent(event);
            case 5: return year.burdens[event];
            case 6: return year.retained[event];
            case 7: return year.positions[event];
            default: return BAD_VALUE;
        }
    }

    public int eventAt(int position) {
        if (!book.hasEvent(position)) {
            return NO_SUCH_ELEMENT;
        }
        year.reckon();
        return year.order[position];
    }

    public int claim(int claim, int what) {
        if (!book.hasClaim(claim)) {
            return NO_SUCH_ELEMENT;
        }
        year.reckon();
        year.payClaims(book.claimEvents[claim], book.claimCovers[claim]);
        switch (what) {
            case 0: return book.claimEvents[claim];
            case 1: return book.claimCovers[claim];
            case 2: return book.claimAmounts[claim];
            case 3: return year.losses[claim];
            case 4: return year.claimPayments[claim];
            case 5: return year.reasonOfClaim(claim);
            default: return BAD_VALUE;
        }
    }

    public int gross(int event, int cover) {
        return answerOf(year.grossLosses, event, cover);
    }

    public int deducted(int event, int cover) {
        return answerOf(year.deductions, event, cover);
    }

    public int paid(int event, int cover) {
        return answerOf(year.payments, event, cover);
    }

    public int leftBefore(int event, int cover) {
        return answerOf(year.leftsBefore, event, cover);
    }

    public int borne(int event, int layer) {
        if (!book.hasEvent(event) || !book.hasLayer(layer)) {
            return NO_SUCH_ELEMENT;
        }
        year.reckon();
        return year.burdenParts[event][layer];
    }

    public int returned(int event, int layer) {
        if (!book.hasEvent(event) || !isWithin(layer, 0, book.layers)) {
            return NO_SUCH_ELEMENT;
        }
        year.reckon();
        int present = year.partOfBurden(event, layer);
        int recovery = book.recoveries[event];
        book.recoveries[event] = 0;
        year.reckon();
        book.recoveries[event] = recovery;
        return year.partOfBurden(event, layer) - present;
    }

    public int place(int event) {
        if (!book.hasEvent(event)) {
            return NO_SUCH_ELEMENT;
        }
        year.reckon();
        int reach = 0;
        for (int i = 0; i < book.layers; i++) {
            if (year.burdenParts[event][i] > 0) {
                reach = i + 1;
            }
        }
        return reach;
    }

    public int worst() {
        if (book.events == 0) {
            return NONE;
        }
        year.reckon();
        int worst = year.order[0];
        for (int i = 1; i < book.events; i++) {
            int event = year.order[i];
            if (year.burdens[event] > year.burdens[worst]) {
                worst = event;
            }
        }
        return worst;
    }

    public int account(int what) {
        year.reckon();
        switch (what) {
            case 0: return year.sumOfLosses();
            case 1: return year.sumOfPayments();
            case 2: return year.sumOfDeductions();
            case 3: return year.sumOfBurdens();
            case 4: return year.sumOfBorne();
            case 5: return year.sumOfRetained();
            case 6: return book.sumOfCoverPremiums();
            case 7: return year.costOfLayers();
            case 8: return year.sumOfLosses() - year.sumOfPayments();
            default: return BAD_VALUE;
        }
    }

    public int result() {
        year.reckon();
        return book.sumOfCoverPremiums() - year.costOfLayers() - year.sumOfRetained() + RESULT_BASE;
    }

    public int ratioBits() {
        int premiums = book.sumOfCoverPremiums();
        if (premiums <= 0) {
            return NONE;
        }
        year.reckon();
        return bitsOfFloat((float) year.sumOfPayments() / (float) premiums);
    }

    public int isBalanced() {
        year.reckon();
        int payments = year.sumOfPayments();
        boolean isPaidOut = year.sumOfClaimPayments() == payments;
        boolean isBorne = year.sumOfLayersOneByOne() + year.sumOfRetained() == year.sumOfBurdens();
        boolean isCovered = payments + year.sumOfDeductions() <= year.sumOfLosses();
        return isPaidOut && isBorne && isCovered ? 1 : 0;
    }

    public int paidIf(int event, int day) {
        if (!book.hasEvent(event)) {
            return NO_SUCH_ELEMENT;
        }
        if (!isWithin(day, 0, LAST_DAY)) {
            return BAD_VALUE;
        }
        int presentDay = book.days[event];
        book.days[event] = day;
        year.reckon();
        book.days[event] = presentDay;
        return year.sumOfPayments();
    }

    public int leastLimit(int cover) {
        if (!book.hasCover(cover)) {
            return NO_SUCH_ELEMENT;
        }
        year.reckon();
        // A year limit cuts the sum of the year alone, so the least that cuts nothing more is that sum.
        return Math.max(1, Math.min(year.claimedFromCover(cover), MOST_AMOUNT));
    }

    public int file(int tray, int place, int kind, int number) {
        if (!trays.hasPlace(tray, place)) {
            return NO_SUCH_ELEMENT;
        }
        if (kind != COVER && kind != LAYER) {
            return BAD_VALUE;
        }
        boolean isThere = kind == COVER ? book.hasCover(number) : book.hasLayer(number);
        if (!isThere) {
            return NO_SUCH_ELEMENT;
        }
        if (!trays.takesKind(tray, kind)) {
            return UNLIKE;
        }
        int[] row = trays.fill(tray, place, kind);
        if (kind == COVER) {
            book.writeCover(number, row);
        } else {
            book.writeLayer(number, row);
        }
        return trays.filledPlaces(tray);
    }

    public int use(int tray, int place) {
        int kind = filed(tray, place);
        if (kind < 0) {
            return kind;
        }
        int[] row = trays.rowAt(tray, place);
        return kind == COVER
                ? addCover(row[0], row[1], row[2], row[3])
                : addLayer(row[0], row[1], row[2], row[3]);
    }

    public int filed(int tray, int place) {
        return trays.hasPlace(tray, place) ? trays.kindAt(tray, place) : NO_SUCH_ELEMENT;
    }

    public int save() {
        savedBook.copyFrom(book);
        hasSaved = true;
        return book.claims;
    }

    public int restore() {
        if (!hasSaved) {
            return STATE;
        }
        book.copyFrom(savedBook);
        history.forget();
        return book.claims;
    }

    /** Lets the history keep the change of a call, unless its answer is an error code. */
    private int changed(int answer) {
        if (answer >= 0) {
            history.keepMark();
        }
        return answer;
    }

    private int makeEntry(int entry) {
        int first = text.numbers[entry][0];
        int second = text.numbers[entry][1];
        int third = text.numbers[entry][2];
        char kind = text.kinds[entry];
        if (kind == 'e') {
            return book.insertEvent(first);
        }
        return kind == 'c' ? book.insertClaim(first, second, third) : book.changeRecovery(first, second);
    }

    private int answerOf(int[][] table, int event, int cover) {
        if (!book.hasEvent(event) || !book.hasCover(cover)) {
            return NO_SUCH_ELEMENT;
        }
        year.reckon();
        return table[event][cover];
    }

    private static boolean isWithin(int number, int least, int most) {
        return number >= least && number <= most;
    }

    /** Rounded down; 0 by 0, as where nothing is shared out among none. */
    private static int quotient(long dividend, long divisor) {
        return divisor > 0 ? (int) (dividend / divisor) : 0;
    }

    private static int sumOf(int[] row, int length) {
        int sum = 0;
        for (int i = 0; i < length; i++) {
            sum += row[i];
        }
        return sum;
    }

    /**
     * The bits of a normal float or of 0.0f. Written out, for LANGUAGE.md leaves Float.floatToIntBits
     * out; halving and doubling are exact.
     */
    private static int bitsOfFloat(float value) {
        if (value <= 0.0f) {
            return 0;
        }
        float mantissa = value;
        int exponent = 127;
        while (mantissa >= 2.0f && exponent < 254) {
            mantissa = mantissa / 2.0f;
            exponent++;
        }
        while (mantissa < 1.0f && exponent > 1) {
            mantissa = mantissa * 2.0f;
            exponent--;
        }
        return (exponent << 23) + (int) ((mantissa - 1.0f) * 8388608.0f);
    }

    /** The data of the desk, with the checks of all that changes them. */
    private static final class Book {
        int covers;
        final int[] eventLimits = new int[MOST_COVERS];
        final int[] yearLimits = new int[MOST_COVERS];
        final int[] coverPremiums = new int[MOST_COVERS];
        final int[] coverGroups = new int[MOST_COVERS];
        int layers;
        final int[] attachments = new int[MOST_LAYERS];
        final int[] layerLimits = new int[MOST_LAYERS];
        final int[] layerPremiums = new int[MOST_LAYERS];
        final int[] reinstatements = new int[MOST_LAYERS];
        final int[] deductibles = new int[GROUPS];
        int rate;
        int events;
        final int[] days = new int[MOST_EVENTS];
        final int[] recoveries = new int[MOST_EVENTS];
        int claims;
        final int[] claimEvents = new int[MOST_CLAIMS];
        final int[] claimCovers = new int[MOST_CLAIMS];
        final int[] claimAmounts = new int[MOST_CLAIMS];

        boolean hasCover(int number) {
            return isWithin(number, 0, covers - 1);
        }

        boolean hasLayer(int number) {
            return isWithin(number, 0, layers - 1);
        }

        boolean hasEvent(int number) {
            return isWithin(number, 0, events - 1);
        }

        boolean hasClaim(int number) {
            return isWithin(number, 0, claims - 1);
        }

        int insertCover(int eventLimit, int yearLimit, int premium, int group) {
            if (!isWithin(eventLimit, 1, MOST_AMOUNT) || !isWithin(yearLimit, 1, MOST_AMOUNT)
                    || !isWithin(premium, 0, MOST_AMOUNT) || !isWithin(group, 0, GROUPS - 1)) {
                return BAD_VALUE;
            }
            if (covers >= MOST_COVERS) {
                return FULL;
            }
            eventLimits[covers] = eventLimit;
            yearLimits[covers] = yearLimit;
            coverPremiums[covers] = premium;
            coverGroups[covers] = group;
            covers++;
            return covers - 1;
        }

        int insertLayer(int attachment, int limit, int premium, int times) {
            if (!isWithin(attachment, 0, MOST_HIGH_AMOUNT) || !isWithin(limit, 1, MOST_AMOUNT)
                    || !isWithin(premium, 0, MOST_AMOUNT) || !isWithin(times, 0, MOST_REINSTATEMENTS)) {
                return BAD_VALUE;
            }
            if (attachment < endOfLayers()) {
                return STATE;
            }
            if (layers >= MOST_LAYERS) {
                return FULL;
            }
            attachments[layers] = attachment;
            layerLimits[layers] = limit;
            layerPremiums[layers] = premium;
            reinstatements[layers] = times;
            layers++;
            return layers - 1;
        }

        private int endOfLayers() {
            return layers == 0 ? 0 : attachments[layers - 1] + layerLimits[layers - 1];
        }

        int insertEvent(int day) {
            if (!isWithin(day, 0, LAST_DAY)) {
                return BAD_VALUE;
            }
            if (events >= MOST_EVENTS) {
                return FULL;
            }
            days[events] = day;
            recoveries[events] = 0;
            events++;
            return events - 1;
        }

        int insertClaim(int event, int cover, int amount) {
            if (!hasEvent(event) || !hasCover(cover)) {
                return NO_SUCH_ELEMENT;
            }
            if (!isWithin(amount, 1, MOST_AMOUNT)) {
                return BAD_VALUE;
            }
            if (claims >= MOST_CLAIMS) {
                return FULL;
            }
            claimEvents[claims] = event;
            claimCovers[claims] = cover;
            claimAmounts[claims] = amount;
            claims++;
            return claims - 1;
        }

        int dropClaim(int claim) {
            if (!hasClaim(claim)) {
                return NO_SUCH_ELEMENT;
            }
            claims--;
            for (int i = claim; i < claims; i++) {
                claimEvents[i] = claimEvents[i + 1];
                claimCovers[i] = claimCovers[i + 1];
                claimAmounts[i] = claimAmounts[i + 1];
            }
            return claims;
        }

        int changeDay(int event, int day) {
            if (!hasEvent(event)) {
                return NO_SUCH_ELEMENT;
            }
            if (!isWithin(day, 0, LAST_DAY)) {
                return BAD_VALUE;
            }
            int previous = days[event];
            days[event] = day;
            return previous;
        }

        int changeDeductible(int group, int amount) {
            if (!isWithin(group, 0, GROUPS - 1)) {
                return NO_SUCH_ELEMENT;
            }
            if (!isWithin(amount, 0, MOST_AMOUNT)) {
                return BAD_VALUE;
            }
            int previous = deductibles[group];
            deductibles[group] = amount;
            return previous;
        }

        int changeRate(int newRate) {
            if (!isWithin(newRate, 0, MOST_RATE)) {
                return BAD_VALUE;
            }
            int previous = rate;
            rate = newRate;
            return previous;
        }

        int changeRecovery(int event, int amount) {
            if (!hasEvent(event)) {
                return NO_SUCH_ELEMENT;
            }
            if (!isWithin(amount, 0, MOST_HIGH_AMOUNT)) {
                return BAD_VALUE;
            }
            int previous = recoveries[event];
            recoveries[event] = amount;
            return previous;
        }

        int claimsOfEvent(int event) {
            int number = 0;
            for (int i = 0; i < claims; i++) {
                if (claimEvents[i] == event) {
                    number++;
                }
            }
            return number;
        }

        int sumOfCoverPremiums() {
            return sumOf(coverPremiums, covers);
        }

        void writeCover(int number, int[] row) {
            row[0] = eventLimits[number];
            row[1] = yearLimits[number];
            row[2] = coverPremiums[number];
            row[3] = coverGroups[number];
        }

        void writeLayer(int number, int[] row) {
            row[0] = attachments[number];
            row[1] = layerLimits[number];
            row[2] = layerPremiums[number];
            row[3] = reinstatements[number];
        }

        void copyFrom(Book other) {
            covers = other.covers;
            System.arraycopy(other.eventLimits, 0, eventLimits, 0, MOST_COVERS);
            System.arraycopy(other.yearLimits, 0, yearLimits, 0, MOST_COVERS);
            System.arraycopy(other.coverPremiums, 0, coverPremiums, 0, MOST_COVERS);
            System.arraycopy(other.coverGroups, 0, coverGroups, 0, MOST_COVERS);
            layers = other.layers;
            System.arraycopy(other.attachments, 0, attachments, 0, MOST_LAYERS);
            System.arraycopy(other.layerLimits, 0, layerLimits, 0, MOST_LAYERS);
            System.arraycopy(other.layerPremiums, 0, layerPremiums, 0, MOST_LAYERS);
            System.arraycopy(other.reinstatements, 0, reinstatements, 0, MOST_LAYERS);
            System.arraycopy(other.deductibles, 0, deductibles, 0, GROUPS);
            rate = other.rate;
            events = other.events;
            System.arraycopy(other.days, 0, days, 0, MOST_EVENTS);
            System.arraycopy(other.recoveries, 0, recoveries, 0, MOST_EVENTS);
            claims = other.claims;
            System.arraycopy(other.claimEvents, 0, claimEvents, 0, MOST_CLAIMS);
            System.arraycopy(other.claimCovers, 0, claimCovers, 0, MOST_CLAIMS);
            System.arraycopy(other.claimAmounts, 0, claimAmounts, 0, MOST_CLAIMS);
        }
    }

    /** What the data of a book come to: reckoned anew for each question, in rows that are made once. */
    private static final class Year {
        final Book book = new Book();
        final int[] order = new int[MOST_EVENTS];
        final int[] positions = new int[MOST_EVENTS];
        final int[] losses = new int[MOST_CLAIMS];
        final int[][] lossSums = new int[MOST_EVENTS][MOST_COVERS];
        final int[][] grossLosses = new int[MOST_EVENTS][MOST_COVERS];
        final int[][] deductions = new int[MOST_EVENTS][MOST_COVERS];
        final int[][] leftsBefore = new int[MOST_EVENTS][MOST_COVERS];
        final int[][] payments = new int[MOST_EVENTS][MOST_COVERS];
        final int[] yearLefts = new int[MOST_COVERS];
        final int[] burdens = new int[MOST_EVENTS];
        final int[][] burdenParts = new int[MOST_EVENTS][MOST_LAYERS];
        final int[] capacityLefts = new int[MOST_LAYERS];
        final int[] retained = new int[MOST_EVENTS];
        final int[] claimPayments = new int[MOST_CLAIMS];
        final Sharing sharing = new Sharing();

        /** All but the payments for the claims. */
        void reckon() {
            orderEvents();
            sumLosses();
            for (int i = 0; i < book.covers; i++) {
                yearLefts[i] = book.yearLimits[i];
            }
            for (int i = 0; i < book.layers; i++) {
                capacityLefts[i] = capacityOfLayer(i);
            }
            for (int i = 0; i < book.events; i++) {
                int event = order[i];
                limitLosses(event);
                for (int group = 0; group < GROUPS; group++) {
                    deductFromGroup(event, group);
                }
                payFromCovers(event);
                bearBurden(event);
            }
        }

        private void orderEvents() {
            for (int i = 0; i < book.events; i++) {
                int earlier = 0;
                for (int j = 0; j < book.events; j++) {
                    int difference = book.days[j] - book.days[i];
                    if (difference < 0 || difference == 0 && j < i) {
                        earlier++;
                    }
                }
                positions[i] = earlier;
                order[earlier] = i;
            }
        }

        private void sumLosses() {
            for (int i = 0; i < book.events; i++) {
                for (int j = 0; j < book.covers; j++) {
                    lossSums[i][j] = 0;
                }
            }
            for (int i = 0; i < book.claims; i++) {
                int event = book.claimEvents[i];
                losses[i] = (int) ((float) book.claimAmounts[i] * factorOfEvent(event));
                lossSums[event][book.claimCovers[i]] += losses[i];
            }
        }

        private float factorOfEvent(int event) {
            int growth = book.rate * book.days[event] / 30;
            return 1.0f + (float) growth / 1000.0f;
        }

        private void limitLosses(int event) {
            for (int i = 0; i < book.covers; i++) {
                grossLosses[event][i] = Math.min(lossSums[event][i], book.eventLimits[i]);
            }
        }

        private void deductFromGroup(int event, int group) {
            // A cover of another group has the weight 0 here and so gets no part.
            int sum = 0;
            for (int i = 0; i < book.covers; i++) {
                sharing.weights[i] = book.coverGroups[i] == group ? grossLosses[event][i] : 0;
                sum += sharing.weights[i];
            }
            sharing.shareOut(Math.min(book.deductibles[group], sum), book.covers);
            for (int i = 0; i < book.covers; i++) {
                if (book.coverGroups[i] == group) {
                    deductions[event][i] = sharing.parts[i];
                }
            }
        }

        private void payFromCovers(int event) {
            for (int i = 0; i < book.covers; i++) {
                leftsBefore[event][i] = yearLefts[i];
                payments[event][i] = Math.min(dueFromCover(event, i), yearLefts[i]);
                yearLefts[i] -= payments[event][i];
            }
        }

        private int dueFromCover(int event, int cover) {
            return grossLosses[event][cover] - deductions[event][cover];
        }

        private void bearBurden(int event) {
            int burden = Math.max(0, paidForEvent(event) - book.recoveries[event]);
            int rest = burden;
            for (int i = 0; i < book.layers; i++) {
                int above = Math.max(0, burden - book.attachments[i]);
                int part = Math.min(Math.min(above, book.layerLimits[i]), capacityLefts[i]);
                burdenParts[event][i] = part;
                capacityLefts[i] -= part;
                rest -= part;
            }
            burdens[event] = burden;
            retained[event] = rest;
        }

        /** Shares out what a cover pays for an event to its claims of the event. */
        void payClaims(int event, int cover) {
            for (int i = 0; i < book.claims; i++) {
                sharing.weights[i] = isClaimOf(i, event, cover) ? losses[i] : 0;
            }
            sharing.shareOut(payments[event][cover], book.claims);
            for (int i = 0; i < book.claims; i++) {
                if (isClaimOf(i, event, cover)) {
                    claimPayments[i] = sharing.parts[i];
                }
            }
        }

        private boolean isClaimOf(int claim, int event, int cover) {
            return book.claimEvents[claim] == event && book.claimCovers[claim] == cover;
        }

        int reasonOfClaim(int claim) {
            int event = book.claimEvents[claim];
            int cover = book.claimCovers[claim];
            if (claimPayments[claim] == 0) {
                return leftsBefore[event][cover] == 0 ? 1 : 2;
            }
            if (payments[event][cover] < dueFromCover(event, cover)) {
                return 3;
            }
            if (grossLosses[event][cover] < lossSums[event][cover]) {
                return 4;
            }
            return deductions[event][cover] > 0 ? 5 : 0;
        }

        /** The part of a layer, or what is retained if the number is that of the layers. */
        int partOfBurden(int event, int layer) {
            return layer < book.layers ? burdenParts[event][layer] : retained[event];
        }

        int lossOfEvent(int event) {
            return sumOf(lossSums[event], book.covers);
        }

        int paidForEvent(int event) {
            return sumOf(payments[event], book.covers);
        }

        int claimedFromCover(int cover) {
            int sum = 0;
            for (int i = 0; i < book.events; i++) {
                sum += dueFromCover(i, cover);
            }
            return sum;
        }

        private int capacityOfLayer(int layer) {
            return book.layerLimits[layer] * (book.reinstatements[layer] + 1);
        }

        int borneByLayer(int layer) {
            return capacityOfLayer(layer) - capacityLefts[layer];
        }

        int reinstatedAmount(int layer) {
            return Math.min(borneByLayer(layer), book.layerLimits[layer] * book.reinstatements[layer]);
        }

        int reinstatementPremium(int layer) {
            long product = (long) book.layerPremiums[layer] * reinstatedAmount(layer);
            return quotient(product, book.layerLimits[layer]);
        }

        int sumOfLosses() {
            return sumOf(losses, book.claims);
        }

        int sumOfPayments() {
            int sum = 0;
            for (int i = 0; i < book.events; i++) {
                sum += paidForEvent(i);
            }
            return sum;
        }

        int sumOfDeductions() {
            int sum = 0;
            for (int i = 0; i < book.events; i++) {
                sum += sumOf(deductions[i], book.covers);
            }
            return sum;
        }

        int sumOfBurdens() {
            return sumOf(burdens, book.events);
        }

        int sumOfBorne() {
            int sum = 0;
            for (int i = 0; i < book.events; i++) {
                sum += sumOf(burdenParts[i], book.layers);
            }
            return sum;
        }

        int sumOfRetained() {
            return sumOf(retained, book.events);
        }

        int costOfLayers() {
            int sum = 0;
            for (int i = 0; i < book.layers; i++) {
                sum += book.layerPremiums[i] + reinstatementPremium(i);
            }
            return sum;
        }

        int sumOfClaimPayments() {
            for (int i = 0; i < book.events; i++) {
                for (int j = 0; j < book.covers; j++) {
                    payClaims(i, j);
                }
            }
            return sumOf(claimPayments, book.claims);
        }

        int sumOfLayersOneByOne() {
            int sum = 0;
            for (int i = 0; i < book.layers; i++) {
                sum += borneByLayer(i);
            }
            return sum;
        }
    }

    /** Shares out an amount by weights. */
    private static final class Sharing {
        final int[] weights = new int[MOST_CLAIMS];
        final int[] parts = new int[MOST_CLAIMS];
        private final long[] remainders = new long[MOST_CLAIMS];

        void shareOut(int amount, int length) {
            int sum = sumOf(weights, length);
            int left = amount;
            for (int i = 0; i < length; i++) {
                long product = (long) amount * weights[i];
                parts[i] = quotient(product, sum);
                remainders[i] = product - (long) parts[i] * sum;
                left -= parts[i];
            }
            for (int i = 0; i < length && left > 0; i++) {
                int next = greatestRemainder(length);
                parts[next]++;
                remainders[next] = -1;
                left--;
            }
        }

        private int greatestRemainder(int length) {
            int greatest = 0;
            for (int i = 1; i < length; i++) {
                if (remainders[i] > remainders[greatest]) {
                    greatest = i;
                }
            }
            return greatest;
        }
    }

    /** The latest states of a book before its changes, in a ring with one row more for the mark. */
    private static final class History {
        private static final int ROWS = MOST_UNDOS + 1;
        private final Book[] ring = new Book[ROWS];
        private int markAt;
        private int kept;

        History() {
            for (int i = 0; i < ROWS; i++) {
                ring[i] = new Book();
            }
        }

        /** Notes the present state, which only keepMark makes a step of the history. */
        void mark(Book book) {
            ring[markAt].copyFrom(book);
        }

        void keepMark() {
            markAt = (markAt + 1) % ROWS;
            kept = Math.min(kept + 1, MOST_UNDOS);
        }

        void returnToMark(Book book) {
            book.copyFrom(ring[markAt]);
        }

        int goBack(Book book) {
            if (kept == 0) {
                return NONE;
            }
            kept--;
            markAt = (markAt + ROWS - 1) % ROWS;
            returnToMark(book);
            return kept;
        }

        void forget() {
            kept = 0;
        }
    }

    /** The text and, after a scan, its entries. */
    private static final class Text {
        private static final int MOST_SIGNS = 60;
        // The shortest entry has two signs, and a ";" stands between two of them.
        private static final int MOST_ENTRIES = (MOST_SIGNS + 1) / 3;
        private static final int MOST_DIGITS = 6;
        private final char[] signs = new char[MOST_SIGNS];
        int length;
        int at;
        int entries;
        final char[] kinds = new char[MOST_ENTRIES];
        final int[] starts = new int[MOST_ENTRIES];
        final int[][] numbers = new int[MOST_ENTRIES][3];

        int extend(int packed) {
            int added = 0;
            for (int shift = 24; shift >= 0; shift -= 8) {
                int sign = packed >>> shift & 255;
                if (sign != 0 && !isWithin(sign, 33, 126)) {
                    return BAD_VALUE;
                }
                added += sign == 0 ? 0 : 1;
            }
            if (length + added > MOST_SIGNS) {
                return FULL;
            }
            for (int shift = 24; shift >= 0; shift -= 8) {
                int sign = packed >>> shift & 255;
                if (sign != 0) {
                    signs[length] = (char) sign;
                    length++;
                }
            }
            return length;
        }

        void clear() {
            length = 0;
        }

        /** Takes the text apart. If it has a fault, answers false, and its position stands in at. */
        boolean scan() {
            at = 0;
            for (int i = 0; i < MOST_ENTRIES && scanEntry(i); i++) {
                if (at == length) {
                    entries = i + 1;
                    return true;
                }
                if (!skipSign(';')) {
                    return false;
                }
            }
            return false;
        }

        private boolean scanEntry(int entry) {
            int[] row = numbers[entry];
            starts[entry] = at;
            if (skipSign('e')) {
                kinds[entry] = 'e';
                return scanNumber(row, 0);
            }
            if (skipSign('c')) {
                kinds[entry] = 'c';
                return scanNumber(row, 0) && skipSign(',') && scanNumber(row, 1)
                        && skipSign(',') && scanNumber(row, 2);
            }
            if (skipSign('r')) {
                kinds[entry] = 'r';
                return scanNumber(row, 0) && skipSign('=') && scanNumber(row, 1);
            }
            return false;
        }

        private boolean skipSign(char sign) {
            if (at >= length || signs[at] != sign) {
                return false;
            }
            at++;
            return true;
        }

        private boolean scanNumber(int[] row, int column) {
            int number = 0;
            int digits = 0;
            while (digits < MOST_DIGITS && at < length && isWithin(signs[at], '0', '9')) {
                number = number * 10 + signs[at] - '0';
                digits++;
                at++;
            }
            row[column] = number;
            return digits > 0;
        }
    }

    /** Three trays with four places each, one behind the other. */
    private static final class Trays {
        private static final int TRAYS = 3;
        private static final int PLACES = 4;
        private static final int MIXED_TRAY = 2;
        private final int[] kinds = new int[TRAYS * PLACES];
        private final int[][] rows = new int[TRAYS * PLACES][4];

        Trays() {
            for (int i = 0; i < TRAYS * PLACES; i++) {
                kinds[i] = NONE;
            }
        }

        boolean hasPlace(int tray, int place) {
            return isWithin(tray, 0, TRAYS - 1) && isWithin(place, 0, PLACES - 1);
        }

        /** Tray 0 holds covers, kind 0, and tray 1 layers, kind 1. */
        boolean takesKind(int tray, int kind) {
            return tray == MIXED_TRAY || tray == kind;
        }

        /** Notes the kind and hands out the row for the copy. */
        int[] fill(int tray, int place, int kind) {
            kinds[tray * PLACES + place] = kind;
            return rowAt(tray, place);
        }

        int[] rowAt(int tray, int place) {
            return rows[tray * PLACES + place];
        }

        int kindAt(int tray, int place) {
            return kinds[tray * PLACES + place];
        }

        int filledPlaces(int tray) {
            int filled = 0;
            for (int i = 0; i < PLACES; i++) {
                if (kindAt(tray, i) != NONE) {
                    filled++;
                }
            }
            return filled;
        }
    }
}
