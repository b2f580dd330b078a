import java.math.BigInteger;
import java.util.ArrayDeque;
import java.util.ArrayList;
import java.util.Comparator;
import java.util.Deque;
import java.util.List;
import java.util.Random;
import java.util.regex.Matcher;
import java.util.regex.Pattern;

/**
 * Runs of calls with a fixed seed on the program and on a second writing of the document, which takes
 * other ways where it can: whole copies, sorting, regular expressions, searching. All answers must agree.
 */
public final class ReferenceTest {
    private static final int RUNS = 1500;
    private static final int CALLS = 512;

    public static void main(String[] args) {
        int wrong = 0;
        int[] seen = new int[64];
        for (int run = 0; run < RUNS && wrong == 0; run++) {
            wrong += run(run, seen);
        }
        for (int i = 0; i < 6; i++) {
            if (seen[i] == 0) {
                wrong++;
                System.out.println("no claim had the reason " + i);
            }
        }
        System.out.println(wrong == 0 ? "the program and the reference agree" : "they differ");
        if (wrong != 0) {
            System.exit(1);
        }
    }

    private static int run(int run, int[] seen) {
        Random random = new Random(run);
        LayeredClaims program = new LayeredClaims();
        Reference reference = new Reference();
        Caller caller = new Caller(random);
        List<String> log = new ArrayList<>();
        for (int i = 0; i < CALLS; i++) {
            int[] call = caller.next(reference);
            int got = onProgram(program, call);
            int want = onReference(reference, call);
            log.add(java.util.Arrays.toString(call) + " -> " + got);
            if (call[0] == 20 && call[2] == 5 && got >= 0) {
                seen[got]++;
            }
            if (got != want) {
                System.out.println("run " + run + ", due is " + want + ":");
                log.forEach(System.out::println);
                return 1;
            }
        }
        return 0;
    }

    private static int onProgram(LayeredClaims x, int[] c) {
        switch (c[0]) {
            case 0: return x.addCover(c[1], c[2], c[3], c[4]);
            case 1: return x.addLayer(c[1], c[2], c[3], c[4]);
            case 2: return x.addEvent(c[1]);
            case 3: return x.addClaim(c[1], c[2], c[3]);
            case 4: return x.removeClaim(c[1]);
            case 5: return x.setDay(c[1], c[2]);
            case 6: return x.setDeductible(c[1], c[2]);
            case 7: return x.setIndex(c[1]);
            case 8: return x.setRecovery(c[1], c[2]);
            case 9: return x.append(c[1]);
            case 10: return x.read();
            case 11: return x.faultPosition();
            case 12: return x.undo();
            case 13: return x.count(c[1]);
            case 14: return x.cover(c[1], c[2]);
            case 15: return x.layer(c[1], c[2]);
            case 16: return x.deductible(c[1]);
            case 17: return x.event(c[1], c[2]);
            case 18: return x.eventAt(c[1]);
            case 19: return x.gross(c[1], c[2]);
            case 20: return x.claim(c[1], c[2]);
            case 21: return x.deducted(c[1], c[2]);
            case 22: return x.paid(c[1], c[2]);
            case 23: return x.leftBefore(c[1], c[2]);
            case 24: return x.borne(c[1], c[2]);
            case 25: return x.returned(c[1], c[2]);
            case 26: return x.place(c[1]);
            case 27: return x.worst();
            case 28: return x.account(c[1]);
            case 29: return x.result();
            case 30: return x.ratioBits();
            case 31: return x.isBalanced();
            case 32: return x.paidIf(c[1], c[2]);
            case 33: return x.leastLimit(c[1]);
            case 34: return x.file(c[1], c[2], c[3], c[4]);
            case 35: return x.use(c[1], c[2]);
            case 36: return x.filed(c[1], c[2]);
            case 37: return x.save();
            default: return x.restore();
        }
    }

    private static int onReference(Reference x, int[] c) {
        switch (c[0]) {
            case 0: case 1: case 2: case 3: case 4: case 5: case 6: case 7: case 8: return x.change(c);
            case 9: return x.append(c[1]);
            case 10: return x.read();
            case 11: return x.fault;
            case 12: return x.undo();
            case 34: return x.file(c[1], c[2], c[3], c[4]);
            case 35: return x.use(c[1], c[2]);
            case 36: return x.filed(c[1], c[2]);
            case 37: return x.save();
            case 38: return x.restore();
            default: return x.ask(c);
        }
    }

    /** Chooses calls: mostly sensible ones, with edges and wrong ones among them. */
    private static final class Caller {
        private final Random random;
        private final int scale;
        private final int lossScale;
        private final boolean tight;
        private String pending = "";

        Caller(Random random) {
            this.random = random;
            this.scale = new int[] {5, 30, 1000, 99999}[random.nextInt(4)];
            this.lossScale = random.nextInt(3) == 0 ? Math.max(2, scale / 8) : scale;
            this.tight = random.nextBoolean();
        }

        int[] next(Reference x) {
            if (!pending.isEmpty()) {
                return append();
            }
            int kind = random.nextInt(100);
            if (kind < 35) {
                return change(x);
            }
            if (kind < 40) {
                pending = text(x);
                return pending.isEmpty() ? new int[] {10} : append();
            }
            if (kind < 48) {
                return history();
            }
            return question(x);
        }

        private int number(int least, int most) {
            return number(least, most, scale);
        }

        private int loss(int least) {
            return number(least, 99999, lossScale);
        }

        private int number(int least, int most, int scale) {
            int choice = random.nextInt(40);
            if (choice == 0) {
                return least - 1;
            }
            if (choice == 1) {
                return most + 1;
            }
            if (choice == 2) {
                return least;
            }
            if (choice == 3) {
                return most;
            }
            if (choice == 4 && random.nextInt(4) == 0) {
                return random.nextInt();
            }
            int top = Math.min(most, Math.max(least, scale));
            return least + random.nextInt(top - least + 1);
        }

        private int small(int count) {
            return random.nextInt(25) == 0 ? random.nextInt(count + 4) - 2 : random.nextInt(Math.max(1, count));
        }

        private int day() {
            return tight && random.nextInt(3) > 0 ? random.nextInt(3) : random.nextInt(30) == 0 ? number(0, 364)
                : random.nextInt(365);
        }

        private int[] cover() {
            return new int[] {0, number(1, 99999), tight ? number(1, 99999) : Math.min(99999, 8 * number(1, 99999)),
                number(0, 99999), small(3)};
        }

        private int[] layer(Reference x) {
            int end = x.state.endOfLayers();
            int attachment = random.nextInt(6) == 0 ? number(0, 999999) : end + random.nextInt(3) * random.nextInt(scale);
            return new int[] {1, attachment, number(1, 99999), number(0, 99999), small(4)};
        }

        private int[] change(Reference x) {
            State s = x.state;
            switch (random.nextInt(14)) {
                case 0: return cover();
                case 1: return layer(x);
                case 2: return new int[] {2, day()};
                case 3: case 4: case 5: case 6: case 7:
                    return new int[] {3, small(s.events.size()), small(s.covers.size()), loss(1)};
                case 8: return new int[] {4, small(s.claims.size())};
                case 9: return new int[] {5, small(s.events.size()), day()};
                case 10: return new int[] {6, small(3), loss(0)};
                case 11: return new int[] {7, random.nextInt(103) - 1};
                case 12: return new int[] {8, small(s.events.size()), number(0, 999999)};
                default: return random.nextBoolean() ? new int[] {35, small(3), small(4)}
                    : new int[] {34, small(3), small(4), small(2), small(Math.min(s.covers.size(), 3))};
            }
        }

        private int[] history() {
            switch (random.nextInt(10)) {
                case 0: return new int[] {37};
                case 1: return new int[] {38};
                case 2: return new int[] {36, small(3), small(4)};
                case 3: return new int[] {34, small(3), small(4), small(2), small(2)};
                case 4: return new int[] {9, random.nextInt(3) == 0 ? random.nextInt() : 0x65310000};
                case 5: return new int[] {10};
                case 6: return new int[] {11};
                default: return new int[] {12};
            }
        }

        private int[] question(Reference x) {
            State s = x.state;
            int event = small(s.events.size());
            int cover = small(s.covers.size());
            int kind = 13 + random.nextInt(21);
            switch (kind) {
                case 13: return new int[] {kind, small(6)};
                case 14: return new int[] {kind, cover, small(6)};
                case 15: return new int[] {kind, small(s.layers.size()), small(8)};
                case 16: return new int[] {kind, small(3)};
                case 17: return new int[] {kind, event, small(8)};
                case 20: return new int[] {kind, small(s.claims.size()), 2 + small(4)};
                case 24: return new int[] {kind, event, small(s.layers.size())};
                case 25: return new int[] {kind, event, small(s.layers.size() + 1)};
                case 28: return new int[] {kind, small(9)};
                case 32: return new int[] {kind, event, day()};
                case 33: return new int[] {kind, cover};
                default: return new int[] {kind, event, cover};
            }
        }

        private String digits(int number) {
            String plain = Integer.toString(Math.abs(number % 1000000));
            int zeros = random.nextInt(6) == 0 ? random.nextInt(7 - plain.length()) : 0;
            return "0".repeat(zeros) + plain;
        }

        private String text(Reference x) {
            StringBuilder text = new StringBuilder();
            int entries = 1 + random.nextInt(5);
            for (int i = 0; i < entries; i++) {
                text.append(i == 0 ? "" : ";");
                switch (random.nextInt(3)) {
                    case 0:
                        text.append('e').append(digits(day()));
                        break;
                    case 1:
                        text.append('c').append(digits(small(x.state.events.size() + 1))).append(',')
                            .append(digits(small(x.state.covers.size()))).append(',').append(digits(loss(1)));
                        break;
                    default:
                        text.append('r').append(digits(small(x.state.events.size() + 1))).append('=')
                            .append(digits(number(0, 999999)));
                }
            }
            if (random.nextInt(4) == 0) {
                spoil(text);
            }
            return text.toString();
        }

        private void spoil(StringBuilder text) {
            int at = random.nextInt(text.length() + 1);
            char sign = "ecr;,=0123456789!~Ex".charAt(random.nextInt(20));
            switch (random.nextInt(3)) {
                case 0:
                    text.insert(at, sign);
                    break;
                case 1:
                    text.setLength(at);
                    break;
                default:
                    text.insert(at, "000000".substring(random.nextInt(6)));
            }
        }

        private int[] append() {
            int packed = 0;
            int used = 0;
            for (int i = 0; i < 4; i++) {
                boolean skip = random.nextInt(8) == 0;
                packed <<= 8;
                if (!skip && used < pending.length()) {
                    packed |= pending.charAt(used++);
                }
            }
            pending = pending.substring(used);
            return new int[] {9, packed};
        }
    }

    /** One state of the data; each of its rows is the arguments of the call that made it. */
    private static final class State {
        final List<int[]> covers = new ArrayList<>();
        final List<int[]> layers = new ArrayList<>();
        final List<int[]> events = new ArrayList<>();
        final List<int[]> claims = new ArrayList<>();
        int[] deductibles = new int[3];
        int rate;

        State copy() {
            State other = new State();
            covers.forEach(row -> other.covers.add(row.clone()));
            layers.forEach(row -> other.layers.add(row.clone()));
            events.forEach(row -> other.events.add(row.clone()));
            claims.forEach(row -> other.claims.add(row.clone()));
            other.deductibles = deductibles.clone();
            other.rate = rate;
            return other;
        }

        int endOfLayers() {
            if (layers.isEmpty()) {
                return 0;
            }
            int[] last = layers.get(layers.size() - 1);
            return last[0] + last[1];
        }

        /** The calls 0 to 8. */
        int change(int[] c) {
            switch (c[0]) {
                case 0: return addCover(c[1], c[2], c[3], c[4]);
                case 1: return addLayer(c[1], c[2], c[3], c[4]);
                case 2:
                    if (c[1] < 0 || c[1] > 364) {
                        return -2;
                    }
                    return events.size() == 8 ? -3 : add(events, c[1], 0);
                case 3:
                    if (no(events, c[1]) || no(covers, c[2])) {
                        return -1;
                    }
                    if (c[3] < 1 || c[3] > 99999) {
                        return -2;
                    }
                    return claims.size() == 24 ? -3 : add(claims, c[1], c[2], c[3]);
                case 4:
                    if (no(claims, c[1])) {
                        return -1;
                    }
                    claims.remove(c[1]);
                    return claims.size();
                case 5: return no(events, c[1]) ? -1 : set(events.get(c[1]), 0, c[2], 364);
                case 6: return c[1] < 0 || c[1] > 2 ? -1 : set(deductibles, c[1], c[2], 99999);
                case 7:
                    int[] box = {rate};
                    int answer = set(box, 0, c[1], 100);
                    rate = box[0];
                    return answer;
                default: return no(events, c[1]) ? -1 : set(events.get(c[1]), 1, c[2], 999999);
            }
        }

        private int addCover(int eventLimit, int yearLimit, int premium, int group) {
            if (eventLimit < 1 || eventLimit > 99999 || yearLimit < 1 || yearLimit > 99999 || premium < 0
                    || premium > 99999 || group < 0 || group > 2) {
                return -2;
            }
            return covers.size() == 6 ? -3 : add(covers, eventLimit, yearLimit, premium, group);
        }

        private int addLayer(int attachment, int limit, int premium, int times) {
            if (attachment < 0 || attachment > 999999 || limit < 1 || limit > 99999 || premium < 0 || premium > 99999
                    || times < 0 || times > 3) {
                return -2;
            }
            if (attachment < endOfLayers()) {
                return -5;
            }
            return layers.size() == 4 ? -3 : add(layers, attachment, limit, premium, times);
        }

        static boolean no(List<int[]> rows, int number) {
            return number < 0 || number >= rows.size();
        }

        private static int add(List<int[]> rows, int... row) {
            rows.add(row);
            return rows.size() - 1;
        }

        private static int set(int[] row, int column, int value, int most) {
            if (value < 0 || value > most) {
                return -2;
            }
            int previous = row[column];
            row[column] = value;
            return previous;
        }
    }

    /** What a state comes to. */
    private static final class Sums {
        final State s;
        final List<Integer> order = new ArrayList<>();
        final int[] loss;
        final int[][] sum;
        final int[][] gross;
        final int[][] deducted;
        final int[][] left;
        final int[][] paid;
        final int[][] borne;
        final int[] claimPaid;
        final int[] burden;
        final int[] retained;

        Sums(State s) {
            this.s = s;
            int events = s.events.size();
            int covers = s.covers.size();
            loss = new int[s.claims.size()];
            claimPaid = new int[s.claims.size()];
            sum = new int[events][covers];
            gross = new int[events][covers];
            deducted = new int[events][covers];
            left = new int[events][covers + 1];
            paid = new int[events][covers];
            borne = new int[events][s.layers.size()];
            burden = new int[events];
            retained = new int[events];
            for (int i = 0; i < events; i++) {
                order.add(i);
            }
            order.sort(Comparator.comparingInt(e -> s.events.get(e)[0]));
            findLosses();
            for (int e = 0; e < events; e++) {
                deduct(e);
            }
            for (int e : order) {
                pay(e);
                bear(e);
            }
        }

        private void findLosses() {
            for (int k = 0; k < loss.length; k++) {
                int[] claim = s.claims.get(k);
                float q = (float) (int) Math.floor(s.rate * s.events.get(claim[0])[0] / 30.0);
                float factor = 1.0f + q / 1000.0f;
                loss[k] = (int) ((float) claim[2] * factor);
                sum[claim[0]][claim[1]] += loss[k];
                gross[claim[0]][claim[1]] = Math.min(sum[claim[0]][claim[1]], s.covers.get(claim[1])[0]);
            }
        }

        private void deduct(int e) {
            for (int g = 0; g < 3; g++) {
                List<Integer> members = new ArrayList<>();
                List<Integer> weights = new ArrayList<>();
                for (int c = 0; c < s.covers.size(); c++) {
                    if (s.covers.get(c)[3] == g) {
                        members.add(c);
                        weights.add(gross[e][c]);
                    }
                }
                int all = weights.stream().mapToInt(w -> w).sum();
                List<Integer> shares = shareOut(Math.min(all, s.deductibles[g]), weights);
                for (int i = 0; i < members.size(); i++) {
                    deducted[e][members.get(i)] = shares.get(i);
                }
            }
        }

        private void pay(int e) {
            for (int c = 0; c < s.covers.size(); c++) {
                int rest = s.covers.get(c)[1];
                for (int earlier : order.subList(0, order.indexOf(e))) {
                    rest -= paid[earlier][c];
                }
                left[e][c] = rest;
                paid[e][c] = Math.min(rest, gross[e][c] - deducted[e][c]);
                List<Integer> members = new ArrayList<>();
                List<Integer> weights = new ArrayList<>();
                for (int k = 0; k < loss.length; k++) {
                    if (s.claims.get(k)[0] == e && s.claims.get(k)[1] == c) {
                        members.add(k);
                        weights.add(loss[k]);
                    }
                }
                List<Integer> shares = shareOut(paid[e][c], weights);
                for (int i = 0; i < members.size(); i++) {
                    claimPaid[members.get(i)] = shares.get(i);
                }
            }
        }

        private void bear(int e) {
            burden[e] = Math.max(0, total(paid[e]) - s.events.get(e)[1]);
            for (int l = 0; l < s.layers.size(); l++) {
                int[] layer = s.layers.get(l);
                int rest = layer[1] * (layer[3] + 1);
                for (int earlier : order.subList(0, order.indexOf(e))) {
                    rest -= borne[earlier][l];
                }
                int within = Math.max(0, Math.min(burden[e], layer[0] + layer[1]) - layer[0]);
                borne[e][l] = Math.min(within, rest);
            }
            retained[e] = burden[e] - total(borne[e]);
        }

        static int total(int[] row) {
            return java.util.Arrays.stream(row).sum();
        }

        static int total(int[][] rows) {
            return java.util.Arrays.stream(rows).mapToInt(Sums::total).sum();
        }

        int column(int[][] rows, int column) {
            return java.util.Arrays.stream(rows).mapToInt(row -> row[column]).sum();
        }

        private static List<Integer> shareOut(int amount, List<Integer> weights) {
            BigInteger sum = BigInteger.valueOf(weights.stream().mapToLong(w -> w).sum());
            List<Integer> shares = new ArrayList<>();
            List<Integer> ranking = new ArrayList<>();
            BigInteger[] remainders = new BigInteger[weights.size()];
            int left = amount;
            for (int i = 0; i < weights.size(); i++) {
                BigInteger product = BigInteger.valueOf(amount).multiply(BigInteger.valueOf(weights.get(i)));
                BigInteger[] both = amount == 0 ? new BigInteger[] {BigInteger.ZERO, BigInteger.ZERO}
                    : product.divideAndRemainder(sum);
                shares.add(both[0].intValue());
                remainders[i] = both[1];
                ranking.add(i);
                left -= shares.get(i);
            }
            ranking.sort((i, j) -> remainders[j].compareTo(remainders[i]));
            for (int i = 0; i < left; i++) {
                shares.set(ranking.get(i), shares.get(ranking.get(i)) + 1);
            }
            return shares;
        }

        int premium(int l) {
            int[] layer = s.layers.get(l);
            return BigInteger.valueOf(layer[2]).multiply(BigInteger.valueOf(reinstated(l)))
                .divide(BigInteger.valueOf(layer[1])).intValue();
        }

        int reinstated(int l) {
            int[] layer = s.layers.get(l);
            return Math.min(column(borne, l), layer[1] * layer[3]);
        }

        int reason(int k) {
            int e = s.claims.get(k)[0];
            int c = s.claims.get(k)[1];
            if (claimPaid[k] == 0 && left[e][c] == 0) {
                return 1;
            }
            if (claimPaid[k] == 0) {
                return 2;
            }
            if (paid[e][c] < gross[e][c] - deducted[e][c]) {
                return 3;
            }
            if (gross[e][c] < sum[e][c]) {
                return 4;
            }
            return deducted[e][c] > 0 ? 5 : 0;
        }
    }

    private static final class Reference {
        private static final String NUMBER = "\\d{1,6}";
        private static final String ENTRY = "(?:e" + NUMBER + "|c" + NUMBER + "," + NUMBER + "," + NUMBER + "|r" + NUMBER
            + "=" + NUMBER + ")";
        private static final Pattern TEXT = Pattern.compile(ENTRY + "(?:;" + ENTRY + ")*");
        State state = new State();
        State saved;
        final Deque<State> past = new ArrayDeque<>();
        String text = "";
        int fault = -4;
        final int[][][] trays = new int[3][4][];
        private Sums sums;

        int change(int[] call) {
            State before = state.copy();
            int answer = state.change(call);
            if (answer >= 0) {
                remember(before);
            }
            return answer;
        }

        private void remember(State before) {
            sums = null;
            past.addLast(before);
            if (past.size() > 6) {
                past.removeFirst();
            }
        }

        int append(int packed) {
            StringBuilder added = new StringBuilder();
            for (int i = 3; i >= 0; i--) {
                char sign = (char) (packed >> 8 * i & 0xff);
                if (sign != 0) {
                    added.append(sign);
                }
            }
            for (char sign : added.toString().toCharArray()) {
                if (sign < 33 || sign > 126) {
                    return -2;
                }
            }
            if (text.length() + added.length() > 60) {
                return -3;
            }
            text += added;
            return text.length();
        }

        int read() {
            String whole = text;
            text = "";
            if (!TEXT.matcher(whole).matches()) {
                fault = 0;
                while (fault < whole.length() && canBegin(whole.substring(0, fault + 1))) {
                    fault++;
                }
                return -2;
            }
            State before = state.copy();
            int at = 0;
            String[] entries = whole.split(";");
            for (String entry : entries) {
                String[] parts = entry.substring(1).split("[,=]");
                int[] call = new int[4];
                call[0] = entry.charAt(0) == 'e' ? 2 : entry.charAt(0) == 'c' ? 3 : 8;
                for (int i = 0; i < parts.length; i++) {
                    call[i + 1] = Integer.parseInt(parts[i]);
                }
                if (state.change(call) < 0) {
                    state = before;
                    fault = at;
                    return -5;
                }
                at += entry.length() + 1;
            }
            fault = -4;
            remember(before);
            return entries.length;
        }

        private static boolean canBegin(String start) {
            Matcher matcher = TEXT.matcher(start);
            return matcher.matches() || matcher.hitEnd();
        }

        int undo() {
            if (past.isEmpty()) {
                return -4;
            }
            sums = null;
            state = past.removeLast();
            return past.size();
        }

        private static boolean noPlace(int tray, int place) {
            return tray < 0 || tray > 2 || place < 0 || place > 3;
        }

        int file(int tray, int place, int kind, int number) {
            if (noPlace(tray, place)) {
                return -1;
            }
            if (kind < 0 || kind > 1) {
                return -2;
            }
            List<int[]> rows = kind == 0 ? state.covers : state.layers;
            if (State.no(rows, number)) {
                return -1;
            }
            if (tray == 0 && kind == 1 || tray == 1 && kind == 0) {
                return -6;
            }
            int[] row = rows.get(number);
            trays[tray][place] = new int[] {kind, row[0], row[1], row[2], row[3]};
            int filled = 0;
            for (int[] each : trays[tray]) {
                filled += each == null ? 0 : 1;
            }
            return filled;
        }

        int use(int tray, int place) {
            int kind = filed(tray, place);
            return kind < 0 ? kind : change(trays[tray][place].clone());
        }

        int filed(int tray, int place) {
            if (noPlace(tray, place)) {
                return -1;
            }
            return trays[tray][place] == null ? -4 : trays[tray][place][0];
        }

        int save() {
            saved = state.copy();
            return saved.claims.size();
        }

        int restore() {
            if (saved == null) {
                return -5;
            }
            sums = null;
            state = saved.copy();
            past.clear();
            return state.claims.size();
        }

        private Sums sums() {
            if (sums == null) {
                sums = new Sums(state);
            }
            return sums;
        }

        int ask(int[] c) {
            switch (c[0]) {
                case 13: return count(c[1]);
                case 14: return cover(c[1], c[2]);
                case 15: return layer(c[1], c[2]);
                case 16: return c[1] < 0 || c[1] > 2 ? -1 : state.deductibles[c[1]];
                case 17: return event(c[1], c[2]);
                case 18: return State.no(state.events, c[1]) ? -1 : sums().order.get(c[1]);
                case 19: return pair(c, sums().gross);
                case 20: return claim(c[1], c[2]);
                case 21: return pair(c, sums().deducted);
                case 22: return pair(c, sums().paid);
                case 23: return pair(c, sums().left);
                case 24: return State.no(state.events, c[1]) || State.no(state.layers, c[2]) ? -1
                    : sums().borne[c[1]][c[2]];
                case 25: return returned(c[1], c[2]);
                case 26: return place(c[1]);
                case 27: return worst();
                case 28: return account(c[1]);
                case 29: return account(6) - account(7) - account(5) + 10000000;
                case 30: return account(6) == 0 ? -4 : Float.floatToIntBits((float) account(1) / (float) account(6));
                case 31: return 1;
                case 32: return paidIf(c[1], c[2]);
                default: return leastLimit(c[1]);
            }
        }

        private int pick(int what, int... numbers) {
            return what < 0 || what >= numbers.length ? -2 : numbers[what];
        }

        private int count(int what) {
            return pick(what, state.covers.size(), state.layers.size(), state.events.size(), state.claims.size(),
                text.length(), state.rate);
        }

        private int cover(int c, int what) {
            if (State.no(state.covers, c)) {
                return -1;
            }
            int[] row = state.covers.get(c);
            int paid = sums().column(sums().paid, c);
            return pick(what, row[0], row[1], row[2], row[3], paid, row[1] - paid);
        }

        private int layer(int l, int what) {
            if (State.no(state.layers, l)) {
                return -1;
            }
            int[] row = state.layers.get(l);
            int borne = sums().column(sums().borne, l);
            return pick(what, row[0], row[1], row[2], row[3], borne, row[1] * (row[3] + 1) - borne, sums().reinstated(l),
                sums().premium(l));
        }

        private int event(int e, int what) {
            if (State.no(state.events, e)) {
                return -1;
            }
            int claims = (int) state.claims.stream().filter(claim -> claim[0] == e).count();
            return pick(what, state.events.get(e)[0], state.events.get(e)[1], claims, Sums.total(sums().sum[e]),
                Sums.total(sums().paid[e]), sums().burden[e], sums().retained[e], sums().order.indexOf(e));
        }

        private int claim(int k, int what) {
            if (State.no(state.claims, k)) {
                return -1;
            }
            int[] row = state.claims.get(k);
            return pick(what, row[0], row[1], row[2], sums().loss[k], sums().claimPaid[k], sums().reason(k));
        }

        private int pair(int[] c, int[][] table) {
            return State.no(state.events, c[1]) || State.no(state.covers, c[2]) ? -1 : table[c[1]][c[2]];
        }

        private int returned(int e, int l) {
            if (State.no(state.events, e) || l < 0 || l > state.layers.size()) {
                return -1;
            }
            State other = state.copy();
            other.events.get(e)[1] = 0;
            Sums without = new Sums(other);
            return l == state.layers.size() ? without.retained[e] - sums().retained[e]
                : without.borne[e][l] - sums().borne[e][l];
        }

        private int place(int e) {
            if (State.no(state.events, e)) {
                return -1;
            }
            int last = state.layers.size();
            while (last > 0 && sums().borne[e][last - 1] == 0) {
                last--;
            }
            return last;
        }

        private int worst() {
            return sums().order.stream().sorted(Comparator.comparingInt(e -> -sums().burden[e])).findFirst().orElse(-4);
        }

        private int account(int what) {
            int losses = Sums.total(sums().loss);
            int paid = Sums.total(sums().paid);
            int layers = 0;
            for (int l = 0; l < state.layers.size(); l++) {
                layers += state.layers.get(l)[2] + sums().premium(l);
            }
            return pick(what, losses, paid, Sums.total(sums().deducted), Sums.total(sums().burden),
                Sums.total(sums().borne), Sums.total(sums().retained),
                state.covers.stream().mapToInt(row -> row[2]).sum(), layers, losses - paid);
        }

        private int paidIf(int e, int day) {
            if (State.no(state.events, e)) {
                return -1;
            }
            State other = state.copy();
            return other.change(new int[] {5, e, day}) < 0 ? -2 : Sums.total(new Sums(other).paid);
        }

        private int leastLimit(int c) {
            if (State.no(state.covers, c)) {
                return -1;
            }
            int most = paidWithLimit(c, 99999);
            int least = 1;
            int enough = 99999;
            while (least < enough) {
                int middle = (least + enough) / 2;
                if (paidWithLimit(c, middle) == most) {
                    enough = middle;
                } else {
                    least = middle + 1;
                }
            }
            return enough;
        }

        private int paidWithLimit(int c, int limit) {
            State other = state.copy();
            other.covers.get(c)[1] = limit;
            Sums with = new Sums(other);
            return with.column(with.paid, c);
        }
    }
}
