import java.util.ArrayList;
import java.util.Arrays;
import java.util.List;

/**
 * The document once more, told as plainly as can be and with no care for room or time: what is
 * foretold is done on a copy of the archive, what can be undone is a list of whole archives.
 */
final class Model {
    static final int NONE = -1000000, BAD = -1000001, STATE = -1000002, FULL = -1000003;

    record Hand(char sort, int coin) { }

    record Deed(boolean all, int set, int on, int worth) { }

    static final class Copy {
        final int place, hand, width, day;
        boolean white;

        Copy(int place, int hand, int width, int day) {
            this.place = place;
            this.hand = hand;
            this.width = width;
            this.day = day;
        }
    }

    static final class Archive {
        int year, repent, day, spent;
        List<Hand> hands = new ArrayList<>();
        List<Copy> copies = new ArrayList<>();
        List<Deed> deeds = new ArrayList<>();

        Archive twin() {
            Archive twin = new Archive();
            twin.year = year;
            twin.repent = repent;
            twin.day = day;
            twin.spent = spent;
            twin.hands.addAll(hands);
            twin.deeds.addAll(deeds);
            for (Copy one : copies) {
                Copy other = new Copy(one.place, one.hand, one.width, one.day);
                other.white = one.white;
                twin.copies.add(other);
            }
            return twin;
        }

        int limit(int hand) {
            return switch (hands.get(hand).sort()) {
                case 's', 'r' -> year;
                case 'p' -> year / 2;
                case 'h' -> 2 * year;
                default -> -1;
            };
        }

        boolean drunk(int hand) {
            return hands.get(hand).sort() == 'r';
        }

        boolean may(Copy one) {
            return !one.white && day - one.day <= limit(one.hand);
        }

        void pass() {
            day++;
            for (Copy one : copies) {
                if (drunk(one.hand) && day - one.day >= repent) one.white = true;
            }
        }

        boolean black(int place) {
            return copies.stream().anyMatch(one -> one.place == place && !one.white);
        }

        boolean stands(int deed) {
            Deed one = deeds.get(deed);
            if (one.on() > 0 && !stands(one.on() - 1)) return false;
            boolean any = false, all = true;
            for (int place = 0; place < 6; place++) {
                if ((one.set() >> place & 1) == 0) continue;
                any |= black(place);
                all &= black(place);
            }
            return one.all() ? all : any;
        }

        int standing() {
            int bits = 0;
            for (int deed = 0; deed < deeds.size(); deed++) if (stands(deed)) bits |= 1 << deed;
            return bits;
        }

        Archive recalledBy(int set) {
            Archive then = twin();
            for (Copy one : then.copies) if ((set >> one.hand & 1) == 1 && then.may(one)) one.white = true;
            return then;
        }

        int falls(int set) {
            return standing() & ~recalledBy(set).standing();
        }

        int loss(int set) {
            int sum = 0;
            for (int deed = 0; deed < deeds.size(); deed++) {
                if ((falls(set) >> deed & 1) == 1) sum += deeds.get(deed).worth();
            }
            return sum;
        }

        int whites() {
            int bits = 0;
            for (int i = 0; i < copies.size(); i++) if (copies.get(i).white) bits |= 1 << i;
            return bits;
        }
    }

    private final int[][] rows = new int[8][];
    private final int[] lanes = new int[8];
    private String tape = "";
    private int fault, status;
    private Archive archive;
    private final Archive[] images = new Archive[2];
    private final List<Archive> undone = new ArrayList<>();
    private List<Integer> trace = new ArrayList<>();

    private int found(int number) {
        status = number;
        return -1000010 - number;
    }

    private int fine(int answer) {
        status = 0;
        return answer;
    }

    private static boolean in(int n, int least, int most) {
        return least <= n && n <= most;
    }

    private boolean isHand(int one) {
        return archive != null && in(one, 0, archive.hands.size() - 1);
    }

    private boolean isCopy(int one) {
        return archive != null && in(one, 0, archive.copies.size() - 1);
    }

    private boolean isDeed(int one) {
        return archive != null && in(one, 0, archive.deeds.size() - 1);
    }

    private boolean isSet(int set) {
        return archive != null && in(set, 0, (1 << archive.hands.size()) - 1);
    }

    int row(int row, int lane, int n) {
        if (!in(row, 0, 7) || !in(lane, 0, 2) || n > 40) return BAD;
        if (n < 0) return found(4);
        rows[row] = new int[n];
        lanes[row] = lane;
        return fine(n);
    }

    int set(int row, int i, int v) {
        if (!in(row, 0, 7)) return BAD;
        if (rows[row] == null) return found(1);
        if (!in(i, 0, rows[row].length - 1)) return found(2);
        int bits = 8 << lanes[row];
        rows[row][i] = v << 32 - bits >> 32 - bits;
        return fine(rows[row][i]);
    }

    int copy(int a, int i, int b, int j, int n) {
        if (!in(a, 0, 7) || !in(b, 0, 7)) return BAD;
        if (rows[a] == null || rows[b] == null) return found(1);
        if (lanes[a] != lanes[b]) return found(5);
        if (i < 0 || j < 0 || n < 0 || (long) i + n > rows[a].length || (long) j + n > rows[b].length) return found(2);
        int[] ahead = rows[a].clone();
        for (int k = 0; k < n; k++) rows[b][j + k] = ahead[i + k];
        return fine(n);
    }

    int drop(int row) {
        if (!in(row, 0, 7)) return BAD;
        if (rows[row] == null) return found(1);
        int n = rows[row].length;
        rows[row] = null;
        return fine(n);
    }

    int feed(int letter) {
        if (!in(letter, 0, 255)) return BAD;
        if (tape.length() == 140) return FULL;
        tape += (char) letter;
        return tape.length();
    }

    int archive() {
        String text = tape;
        tape = "";
        Text read = new Text(text);
        if (read.fault != 0) {
            fault = read.fault;
            return -1000100 - read.at;
        }
        archive = read.archive;
        undone.clear();
        return archive.hands.size();
    }

    /** Token by token along a template: N a number; a template that is told begins where one may. */
    private static final class Text {
        final Archive archive = new Archive();
        final String text;
        int at, fault;

        Text(String text) {
            this.text = text;
            if (!along("iN,N;")) return;
            String may = "sprhl";
            while (fault == 0 && (at < text.length() || archive.hands.isEmpty())) {
                char next = at < text.length() ? text.charAt(at) : '!';
                if (may.indexOf(next) < 0) {
                    fault = 1;
                } else if ("sprhl".indexOf(next) >= 0) {
                    if (archive.hands.size() == 4) fault = 3;
                    else along("sN;");
                    may = "sprhlway";
                } else if (next == 'w') {
                    if (archive.copies.size() == 10) fault = 3;
                    else along("wN,N,N;");
                    may = "way";
                } else {
                    if (archive.deeds.size() == 5) fault = 3;
                    else along("aN,N,N;");
                    may = "ay";
                }
            }
        }

        private boolean along(String template) {
            char first = at < text.length() ? text.charAt(at) : '!';
            List<Integer> numbers = new ArrayList<>();
            for (int k = 0; k < template.length(); k++) {
                char want = template.charAt(k);
                int end = at;
                while (end < text.length() && Character.isDigit(text.charAt(end))) end++;
                if (want == 'N') {
                    if (end == at || end > at + 2) fault = 1;
                    else if (!told(template.charAt(0), numbers, Integer.parseInt(text.substring(at, end)))) fault = 2;
                } else if (at >= text.length() || k > 0 && text.charAt(at) != want || k == 0 && want == 'i' && first != 'i') {
                    fault = 1;
                } else {
                    end = at + 1;
                }
                if (fault != 0) return false;
                at = end;
            }
            keep(first, numbers);
            return true;
        }

        private boolean told(char rule, List<Integer> numbers, int number) {
            int[][] bounds = switch (rule) {
                case 'i' -> new int[][] {{1, 99}, {1, 99}};
                case 's' -> new int[][] {{0, 9}};
                case 'w' -> new int[][] {{0, 5}, {0, archive.hands.size() - 1}, {1, 9}};
                default -> new int[][] {{1, 63}, {0, archive.deeds.size()}, {0, 20}};
            };
            int[] bound = bounds[numbers.size()];
            numbers.add(number);
            return in(number, bound[0], bound[1]);
        }

        private void keep(char first, List<Integer> n) {
            switch (first) {
                case 'i' -> {
                    archive.year = n.get(0);
                    archive.repent = n.get(1);
                }
                case 'w' -> archive.copies.add(new Copy(n.get(0), n.get(1), n.get(2), 0));
                case 'a', 'y' -> archive.deeds.add(new Deed(first == 'a', n.get(0), n.get(1), n.get(2)));
                default -> archive.hands.add(new Hand(first, n.get(0)));
            }
        }
    }

    int fault() {
        return fault;
    }

    int undo() {
        if (undone.isEmpty()) return STATE;
        archive = undone.remove(undone.size() - 1);
        return undone.size();
    }

    private void act() {
        undone.add(archive.twin());
        if (undone.size() > 24) undone.remove(0);
    }

    int write(int place, int hand, int width) {
        if (!in(place, 0, 5) || !isHand(hand) || !in(width, 1, 9)) return BAD;
        if (archive.copies.size() == 10) return FULL;
        act();
        archive.copies.add(new Copy(place, hand, width, archive.day));
        archive.spent += archive.hands.get(hand).coin();
        return archive.copies.size() - 1;
    }

    int recall(int copy) {
        if (!isCopy(copy)) return BAD;
        if (!archive.may(archive.copies.get(copy))) return STATE;
        act();
        Copy one = archive.copies.get(copy);
        one.white = true;
        return archive.black(one.place) ? 1 : 0;
    }

    int days(int n) {
        if (archive == null) return STATE;
        if (!in(n, 1, 24)) return BAD;
        if (archive.day + n > 999) return FULL;
        for (int i = 0; i < n; i++) {
            act();
            archive.pass();
        }
        return archive.standing();
    }

    int copyOf(int copy, int what) {
        if (!isCopy(copy)) return BAD;
        Copy one = archive.copies.get(copy);
        return switch (what) {
            case 0 -> one.place;
            case 1 -> one.hand;
            case 2 -> one.width;
            case 3 -> one.day;
            case 4 -> one.white ? 1 : 0;
            case 5 -> archive.may(one) ? 1 : 0;
            default -> BAD;
        };
    }

    private int bits(java.util.function.Predicate<Copy> which) {
        int bits = 0;
        for (int i = 0; i < archive.copies.size(); i++) if (which.test(archive.copies.get(i))) bits |= 1 << i;
        return bits;
    }

    int hand(int hand, int what) {
        if (!isHand(hand)) return BAD;
        return switch (what) {
            case 0 -> archive.hands.get(hand).coin();
            case 1 -> archive.limit(hand);
            case 2 -> bits(one -> one.hand == hand);
            default -> BAD;
        };
    }

    int deed(int deed, int what) {
        if (!isDeed(deed)) return BAD;
        Deed one = archive.deeds.get(deed);
        return switch (what) {
            case 0 -> one.set();
            case 1 -> one.all() ? 1 : 0;
            case 2 -> one.on() == 0 ? NONE : one.on() - 1;
            case 3 -> one.worth();
            case 4 -> archive.stands(deed) ? 1 : 0;
            default -> BAD;
        };
    }

    int place(int place, int what) {
        if (archive == null) return STATE;
        if (!in(place, 0, 5) || !in(what, 0, 1)) return BAD;
        return what == 0 ? bits(one -> one.place == place) : archive.black(place) ? 1 : 0;
    }

    int falls(int hands, int what) {
        if (archive == null) return STATE;
        if (!isSet(hands) || !in(what, 0, 1)) return BAD;
        return what == 0 ? archive.falls(hands) : archive.loss(hands);
    }

    int ransom(int hand) {
        return isHand(hand) ? archive.loss(1 << hand) : BAD;
    }

    int pair(int what) {
        if (archive == null) return STATE;
        if (!in(what, 0, 1)) return BAD;
        int which = NONE, most = NONE;
        for (int a = 0; a < archive.hands.size(); a++) {
            for (int b = a + 1; b < archive.hands.size(); b++) {
                int more = archive.loss(1 << a | 1 << b) - archive.loss(1 << a) - archive.loss(1 << b);
                if (more > most) {
                    most = more;
                    which = 4 * a + b;
                }
            }
        }
        return what == 0 ? which : most;
    }

    int ahead(int n, int what) {
        if (archive == null) return STATE;
        if (!in(n, 0, 200) || !in(what, 0, 2)) return BAD;
        Archive then = archive.twin();
        for (int i = 0; i < n; i++) then.pass();
        if (what == 1) return then.standing();
        if (what == 2) return then.whites();
        int bits = 0;
        for (int place = 0; place < 6; place++) if (then.black(place)) bits |= 1 << place;
        return bits;
    }

    int first(int deed, int n) {
        if (!isDeed(deed) || !in(n, 1, 200)) return BAD;
        Archive then = archive.twin();
        for (int i = 0; i < n; i++) {
            then.pass();
            if (!then.stands(deed)) return i;
        }
        return NONE;
    }

    int safe(int copy) {
        if (!isCopy(copy)) return BAD;
        Archive then = archive.twin();
        Copy one = then.copies.get(copy);
        if (one.white || then.drunk(one.hand)) return NONE;
        while (then.may(one)) then.pass();
        return then.day;
    }

    int doubles(int deed, int hands, int what) {
        if (!isDeed(deed) || !isSet(hands) || !in(what, 0, 2)) return BAD;
        int coin = 99, cheapest = -1;
        for (int hand = 0; hand < archive.hands.size(); hand++) {
            if ((hands >> hand & 1) == 1 || archive.drunk(hand) || archive.hands.get(hand).coin() >= coin) continue;
            coin = archive.hands.get(hand).coin();
            cheapest = hand;
        }
        for (int many = 0; many <= 6; many++) {
            for (int places = 0; places < 64; places++) {
                if (Integer.bitCount(places) != many || many > 0 && cheapest < 0) continue;
                Archive then = archive.twin();
                for (int place = 0; place < 6; place++) {
                    if ((places >> place & 1) == 1) then.copies.add(new Copy(place, cheapest, 1, then.day));
                }
                if (!then.recalledBy(hands).stands(deed)) continue;
                return what == 0 ? many : what == 1 ? many == 0 ? 0 : many * coin : places;
            }
        }
        return NONE;
    }

    int law(int deed, int hands) {
        if (!isDeed(deed) || !isSet(hands)) return BAD;
        for (int year = 1; year < 100; year++) {
            Archive then = archive.twin();
            then.year = year;
            if (!then.recalledBy(hands).stands(deed)) return year;
        }
        return NONE;
    }

    private List<Integer> best = List.of();
    private int bestSum;

    private void orders(List<Integer> order, int set, int sum) {
        if (order.size() == archive.hands.size() && sum > bestSum) {
            best = List.copyOf(order);
            bestSum = sum;
        }
        for (int hand = 0; hand < archive.hands.size(); hand++) {
            if (order.contains(hand)) continue;
            List<Integer> longer = new ArrayList<>(order);
            longer.add(hand);
            int then = set | 1 << hand;
            orders(longer, then, sum + archive.loss(then));
        }
    }

    int order(int k) {
        if (archive == null) return STATE;
        if (!in(k, -1, 3)) return BAD;
        if (k >= archive.hands.size()) return NONE;
        bestSum = -1;
        orders(List.of(), 0, 0);
        return k < 0 ? bestSum : best.get(k);
    }

    int blanks(int width, int what) {
        if (archive == null) return STATE;
        if (!in(width, 1, 90) || !in(what, 0, 1)) return BAD;
        int many = 0, least = NONE;
        for (int set = 1; set < 1 << archive.copies.size(); set++) {
            int sum = 0;
            boolean may = true;
            for (int i = 0; i < archive.copies.size(); i++) {
                if ((set >> i & 1) == 0) continue;
                sum += archive.copies.get(i).width;
                may &= archive.may(archive.copies.get(i));
            }
            if (!may || sum != width) continue;
            if (many == 0) least = set;
            many++;
        }
        return what == 0 ? many : least;
    }

    int forged(int row, int from) {
        if (archive == null) return STATE;
        if (!in(row, 0, 7)) return BAD;
        if (rows[row] == null) return found(1);
        if (from < 0 || (long) from + archive.copies.size() > rows[row].length) return found(2);
        int bits = 0;
        for (int i = 0; i < archive.copies.size(); i++) {
            int said = rows[row][from + i];
            if (said != -1 && !could(archive.copies.get(i)).contains(said)) bits |= 1 << i;
        }
        return fine(bits);
    }

    private List<Integer> could(Copy one) {
        List<Integer> days = new ArrayList<>();
        boolean drunk = archive.drunk(one.hand);
        for (int day = one.day; day <= archive.day; day++) {
            int age = day - one.day;
            if (drunk && age > archive.repent) break;
            if (age <= archive.limit(one.hand) || drunk && age == archive.repent) days.add(day);
        }
        return days;
    }

    int itself(int deed, int place, int what) {
        if (!isDeed(deed) || !in(place, 0, 5) || !in(what, 0, 1)) return BAD;
        Archive then = archive.twin();
        for (Copy one : then.copies) if (one.place == place) one.white = true;
        boolean stands = then.stands(deed), not = !archive.stands(deed);
        if (what == 0) return (stands ? 1 : 0) + (not ? 1 : 0);
        return stands && not ? 2 : stands ? 1 : not ? 0 : 3;
    }

    int years(int n, int seed, int what) {
        if (archive == null) return STATE;
        if (!in(n, 0, 100) || !in(seed, 1, 999999) || !in(what, 0, 1)) return BAD;
        Archive then = archive.twin();
        long x = seed;
        int many = 0;
        for (int i = 0; i < n; i++) {
            x = x * 16807 % 2147483647L;
            if (!then.copies.isEmpty()) {
                Copy one = then.copies.get((int) (x % then.copies.size()));
                if (x % 7 == 0 && then.may(one)) {
                    one.white = true;
                    many++;
                }
            }
            then.pass();
        }
        return what == 0 ? many : then.standing();
    }

    int image(int k) {
        if (!in(k, 0, 1)) return BAD;
        if (archive == null) return STATE;
        images[k] = archive.twin();
        return 1;
    }

    int restore(int k) {
        if (!in(k, 0, 1)) return BAD;
        if (images[k] == null) return STATE;
        archive = images[k].twin();
        undone.clear();
        return 1;
    }

    int kind(int one) {
        return isHand(one) ? 1 + "sprhl".indexOf(archive.hands.get(one).sort()) : BAD;
    }

    int as(int one, int kind) {
        if (!isHand(one) || !in(kind, 0, 5)) return BAD;
        String[] sorts = {"sprhl", "spr", "p", "r", "hl", "l"};
        return sorts[kind].indexOf(archive.hands.get(one).sort()) < 0 ? found(3) : fine(one);
    }

    int ask(int one, int what) {
        if (!isHand(one) || !in(what, 0, 1)) return BAD;
        char sort = archive.hands.get(one).sort();
        int coin = archive.hands.get(one).coin();
        int own = (int) archive.copies.stream().filter(copy -> copy.hand == one && !copy.white).count();
        int[] marks = {one + own, 2 * (one + own), one + own - 1000, one - (coin - 100), one - 2 * (coin - 100)};
        int[] sizes = {coin + marks[0], -(coin + marks[1]), coin + marks[2], coin - 100, 2 * (coin - 100)};
        Integer[][] markTraces = {{21, 20}, {24, 21, 20}, {22, 21, 20}, {23, 20, 13, 10}, {23, 20, 14, 13, 10}};
        Integer[][] sizeTraces = {{11, 10, 21, 20}, {12, 11, 10, 24, 21, 20}, {11, 10, 22, 21, 20}, {13, 10}, {14, 13, 10}};
        int k = "sprhl".indexOf(sort);
        trace = Arrays.asList(what == 0 ? sizeTraces[k] : markTraces[k]);
        return what == 0 ? sizes[k] : marks[k];
    }

    int trace(int i) {
        return in(i, 0, trace.size() - 1) ? trace.get(i) : NONE;
    }

    int count(int what) {
        boolean none = archive == null;
        return switch (what) {
            case 0 -> (int) Arrays.stream(rows).filter(row -> row != null).count();
            case 1 -> none ? 0 : archive.hands.size();
            case 2 -> none ? 0 : archive.copies.size();
            case 3 -> none ? 0 : archive.deeds.size();
            case 4 -> none ? 0 : archive.day;
            case 5 -> none ? 0 : archive.spent;
            case 6 -> none ? 0 : Integer.bitCount(archive.whites());
            case 7 -> undone.size();
            case 8 -> tape.length();
            default -> BAD;
        };
    }

    int status() {
        return status;
    }
}
