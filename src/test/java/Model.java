import java.math.BigInteger;
import java.util.ArrayList;
import java.util.Arrays;
import java.util.Collection;
import java.util.Comparator;
import java.util.HashMap;
import java.util.HashSet;
import java.util.List;
import java.util.Map;
import java.util.Set;
import java.util.TreeSet;

/**
 * The document a second time, as plainly as Java can say it: every answer is looked for anew, with
 * lists and sets, no matter how long it takes. It shares no code with the program.
 */
final class Model {
    private static final long NO_REST = -4_000_000_000_000_000_000L;

    private static final class Bell {
        int ounces;
        int tin;
        int note;
        int tower;
        boolean hangs = true;
        boolean cracked;

        Bell copy() {
            Bell other = new Bell();
            other.ounces = ounces;
            other.tin = tin;
            other.note = note;
            other.tower = tower;
            other.hangs = hangs;
            other.cracked = cracked;
            return other;
        }

        boolean rings() {
            return hangs && !cracked;
        }

        int left() {
            return ounces - ounces / 50;
        }
    }

    private static final class Due {
        final int much;
        final int year;

        Due(int much, int year) {
            this.much = much;
            this.year = year;
        }
    }

    /** A town as it is at one moment. */
    private static final class Now {
        int lines;
        int coin;
        int tax;
        int frost;
        int trust;
        int year;
        int least;
        long purse;
        long heap;
        long debt;
        List<Integer> towers = new ArrayList<>();
        List<Bell> bells = new ArrayList<>();
        List<Set<Integer>> wards = new ArrayList<>();
        Set<Integer> peal = new TreeSet<>();
        List<Due> dues = new ArrayList<>();
        Set<Integer> kept = new HashSet<>();
        Map<Integer, Integer> after = new HashMap<>();

        Now copy() {
            Now other = new Now();
            other.lines = lines;
            other.coin = coin;
            other.tax = tax;
            other.frost = frost;
            other.trust = trust;
            other.year = year;
            other.least = least;
            other.purse = purse;
            other.heap = heap;
            other.debt = debt;
            other.towers = towers;
            for (Bell bell : bells) {
                other.bells.add(bell.copy());
            }
            other.wards = wards;
            other.peal = peal;
            other.dues = new ArrayList<>(dues);
            other.kept = kept;
            other.after = after;
            return other;
        }

        int coins(Bell bell) {
            return bell.left() / coin;
        }

        int hanging() {
            int many = 0;
            for (Bell bell : bells) {
                many += bell.hangs ? 1 : 0;
            }
            return many;
        }

        int load(int tower) {
            int sum = 0;
            for (Bell bell : bells) {
                sum += bell.hangs && bell.tower == tower ? bell.ounces : 0;
            }
            return sum;
        }

        int why(int number) {
            if (!bells.get(number).hangs) {
                return 1;
            }
            if (kept.contains(number)) {
                return 2;
            }
            if (hanging() <= least) {
                return 3;
            }
            Integer ahead = after.get(number);
            return ahead != null && bells.get(ahead).hangs ? 4 : 0;
        }

        void melt(int number) {
            Bell bell = bells.get(number);
            bell.hangs = false;
            purse += coins(bell);
            heap += bell.left() - coin * coins(bell);
        }

        Set<Integer> heard(int ward) {
            Set<Integer> notes = new TreeSet<>();
            for (Bell bell : bells) {
                if (bell.rings() && wards.get(ward).contains(bell.tower)) {
                    notes.add(bell.note);
                }
            }
            return notes;
        }

        List<Integer> missers() {
            List<Integer> found = new ArrayList<>();
            for (int ward = 0; ward < wards.size(); ward++) {
                if (!heard(ward).containsAll(peal)) {
                    found.add(ward);
                }
            }
            return found;
        }

        boolean pass() {
            purse += tax;
            List<Long> asked = new ArrayList<>();
            asked.add(debt);
            for (Due due : dues) {
                if (due.year == year) {
                    asked.add((long) due.much);
                }
            }
            long not = 0;
            boolean all = true;
            for (long much : asked) {
                long price = much * (15 - trust) / 10;
                if (purse >= price) {
                    purse -= price;
                } else {
                    not += price;
                    all = false;
                }
            }
            debt = not + not;
            int missing = missers().size();
            trust += missing == 0 ? 1 : -missing;
            trust -= all ? 0 : 1;
            trust = trust > 9 ? 9 : trust < 0 ? 0 : trust;
            year++;
            return all;
        }
    }

    private static final class Image {
        final Now now;
        final List<Now> acts;

        Image(Now now, List<Now> acts) {
            this.now = now;
            this.acts = new ArrayList<>(acts);
        }
    }

    private final StringBuilder tape = new StringBuilder();
    private int fault = 0;
    private int place = -1;
    private Now now = null;
    private List<Now> acts = new ArrayList<>();
    private final Image[] images = new Image[3];
    private final long[][] rows = new long[4][];
    private final int[] widths = new int[4];

    // ---- the text ----

    private static final class Faulty extends RuntimeException {
        private static final long serialVersionUID = 1L;
        final int code;
        final int where;

        Faulty(int code, int where) {
            this.code = code;
            this.where = where;
        }
    }

    private static final class Token {
        final String text;
        final int place;

        Token(String text, int place) {
            this.text = text;
            this.place = place;
        }

        boolean isNumber() {
            return text.matches("[0-9]+");
        }
    }

    private final List<Token> tokens = new ArrayList<>();
    private int next = 0;

    private void cut(String text) {
        tokens.clear();
        next = 0;
        int at = 0;
        while (at < text.length()) {
            char sign = text.charAt(at);
            int end = at + 1;
            String kind = sign >= 'a' && sign <= 'z' ? "[a-z]+" : sign >= '0' && sign <= '9' ? "[0-9]+" : "";
            while (end < text.length() && text.substring(at, end + 1).matches(kind)) {
                end++;
            }
            if (sign != ' ' && sign != '\n') {
                tokens.add(new Token(text.substring(at, end), at));
            }
            at = end;
        }
        tokens.add(new Token("", text.length()));
    }

    private Token peek() {
        return tokens.get(next);
    }

    private void word(String wanted) {
        if (!peek().text.equals(wanted)) {
            throw new Faulty(1, peek().place);
        }
        next++;
    }

    private int number(int low, int high) {
        Token token = peek();
        if (!token.isNumber()) {
            throw new Faulty(1, token.place);
        }
        BigInteger value = new BigInteger(token.text);
        if (value.compareTo(BigInteger.valueOf(low)) < 0 || value.compareTo(BigInteger.valueOf(high)) > 0) {
            throw new Faulty(2, token.place);
        }
        next++;
        return value.intValue();
    }

    private void room(int have, int most) {
        if (have == most) {
            throw new Faulty(3, peek().place);
        }
        next++;
    }

    private Set<Integer> numbers(int high) {
        Set<Integer> all = new TreeSet<>();
        do {
            all.add(number(0, high));
        } while (peek().isNumber());
        return all;
    }

    private void head(Now town) {
        word("town");
        word("coin");
        town.coin = number(1, 100);
        word("purse");
        town.purse = number(0, 100000);
        word("tax");
        town.tax = number(0, 100000);
        word("trust");
        town.trust = number(0, 9);
        word("frost");
        town.frost = number(0, 100);
    }

    private void bellLine(Now town) {
        room(town.bells.size(), 8);
        Bell bell = new Bell();
        bell.ounces = number(1, 10000);
        word("tin");
        bell.tin = number(0, 40);
        word("note");
        bell.note = number(0, 11);
        word("in");
        int where = peek().place;
        bell.tower = number(0, town.towers.size() - 1);
        if (town.load(bell.tower) + bell.ounces > town.towers.get(bell.tower)) {
            throw new Faulty(2, where);
        }
        if (peek().text.equals("cracked")) {
            bell.cracked = true;
            next++;
        }
        town.bells.add(bell);
    }

    private void line(Now town) {
        switch (peek().text) {
            case "tower" -> {
                room(town.towers.size(), 4);
                word("holds");
                town.towers.add(number(1, 100000));
            }
            case "bell" -> bellLine(town);
            case "ward" -> {
                room(town.wards.size(), 4);
                town.wards.add(numbers(town.towers.size() - 1));
            }
            case "peal" -> {
                next++;
                town.peal = numbers(11);
            }
            case "due" -> {
                room(town.dues.size(), 12);
                int much = number(1, 1000000);
                word("in");
                town.dues.add(new Due(much, number(0, 19)));
            }
            case "keeps" -> {
                next++;
                town.kept.add(number(0, town.bells.size() - 1));
            }
            case "least" -> {
                next++;
                town.least = number(0, 10);
            }
            case "after" -> {
                next++;
                int first = number(0, town.bells.size() - 1);
                int where = peek().place;
                int second = number(0, town.bells.size() - 1);
                if (first == second) {
                    throw new Faulty(2, where);
                }
                town.after.put(first, second);
            }
            default -> throw new Faulty(1, peek().place);
        }
    }

    private Now told(String text) {
        cut(text);
        Now town = new Now();
        while (next < tokens.size() - 1) {
            if (town.lines == 0) {
                head(town);
            } else {
                line(town);
            }
            word(";");
            town.lines++;
        }
        return town.lines == 0 ? null : town;
    }

    public int feed(int a, int b, int c, int d, int e) {
        if (tape.length() > 1380) {
            return -1;
        }
        for (int four : new int[] {a, b, c, d, e}) {
            for (int i = 3; i >= 0; i--) {
                tape.append((char) (four >>> 8 * i & 255));
            }
        }
        return tape.length();
    }

    public int end(int n) {
        if (n < 0 || n > tape.length()) {
            return -1;
        }
        tape.setLength(n);
        return n;
    }

    public int town() {
        try {
            now = told(tape.toString());
        } catch (Faulty found) {
            fault = found.code;
            place = found.where;
            return -4;
        }
        tape.setLength(0);
        acts = new ArrayList<>();
        fault = 0;
        place = -1;
        return now == null ? 0 : now.lines;
    }

    public int fault(int what) {
        return what == 0 ? fault : what == 1 ? place : -1;
    }

    // ---- what there is ----

    private boolean bellIs(int bell) {
        return now != null && bell >= 0 && bell < now.bells.size();
    }

    private boolean towerIs(int tower) {
        return now != null && tower >= 0 && tower < now.towers.size();
    }

    private static int bits(Collection<Integer> some) {
        int all = 0;
        for (int one : some) {
            all += 1 << one;
        }
        return all;
    }

    private List<Integer> members(int set) {
        List<Integer> all = new ArrayList<>();
        for (int bell = 0; bell < now.bells.size(); bell++) {
            if ((set & 1 << bell) != 0) {
                all.add(bell);
            }
        }
        return all;
    }

    private int hangingBits() {
        int all = 0;
        for (int bell = 0; bell < now.bells.size(); bell++) {
            all += now.bells.get(bell).hangs ? 1 << bell : 0;
        }
        return all;
    }

    private int weight(int set) {
        return members(set).stream().mapToInt(bell -> now.bells.get(bell).ounces).sum();
    }

    private int coinsOf(int set) {
        return members(set).stream().mapToInt(bell -> now.coins(now.bells.get(bell))).sum();
    }

    private int sets() {
        return 1 << now.bells.size();
    }

    public int bell(int number, int what) {
        if (!bellIs(number) || what < 0 || what > 5) {
            return -2;
        }
        Bell bell = now.bells.get(number);
        int[] all = {bell.ounces, bell.tin, bell.note, bell.tower, bell.hangs ? 1 : 0, bell.cracked ? 1 : 0};
        return all[what];
    }

    public int tower(int tower, int what) {
        if (!towerIs(tower) || what < 0 || what > 2) {
            return -2;
        }
        int there = 0;
        for (int bell = 0; bell < now.bells.size(); bell++) {
            there += now.bells.get(bell).hangs && now.bells.get(bell).tower == tower ? 1 << bell : 0;
        }
        int[] all = {now.towers.get(tower), now.load(tower), there};
        return all[what];
    }

    public int ward(int ward, int what) {
        if (now == null || ward < 0 || ward >= now.wards.size() || what < 0 || what > 2) {
            return -2;
        }
        Set<Integer> missed = new TreeSet<>(now.peal);
        missed.removeAll(now.heard(ward));
        int[] all = {bits(now.wards.get(ward)), bits(now.heard(ward)), missed.size()};
        return all[what];
    }

    public int due(int due, int what) {
        if (now == null || due < 0 || due >= now.dues.size() || what < 0 || what > 1) {
            return -2;
        }
        return what == 0 ? now.dues.get(due).year : now.dues.get(due).much;
    }

    public int coins(int bell) {
        return bellIs(bell) ? now.coins(now.bells.get(bell)) : -2;
    }

    public int over(int bell) {
        return bellIs(bell) ? now.bells.get(bell).left() - now.coin * coins(bell) : -2;
    }

    public int why(int bell) {
        return bellIs(bell) ? now.why(bell) : -2;
    }

    public int may() {
        if (now == null) {
            return -2;
        }
        int all = 0;
        for (int bell = 0; bell < now.bells.size(); bell++) {
            all += now.why(bell) == 0 ? 1 << bell : 0;
        }
        return all;
    }

    public long now(int what) {
        if (now == null || what < 0 || what > 6) {
            return -2;
        }
        long[] all = {now.year, now.purse, now.heap, now.trust, now.debt, hangingBits(), bits(now.missers())};
        return all[what];
    }

    public int price(int n, int trust) {
        if (n < 0 || n > 1000000 || trust < 0 || trust > 9) {
            return -2;
        }
        return (int) Math.floor((double) n * (15 - trust) / 10);
    }

    public long asked() {
        if (now == null) {
            return -2;
        }
        long sum = now.debt * (15 - now.trust) / 10;
        for (Due due : now.dues) {
            sum += due.year == now.year ? price(due.much, now.trust) : 0;
        }
        return sum;
    }

    // ---- acts ----

    private void act() {
        acts.add(now);
        now = now.copy();
    }

    public int melt(int bell) {
        if (!bellIs(bell)) {
            return -2;
        }
        if (now.why(bell) != 0 || acts.size() == 40) {
            return -5;
        }
        act();
        now.melt(bell);
        return coins(bell);
    }

    public int cast(int ounces, int tin, int note, int tower) {
        if (ounces < 1 || ounces > 10000 || tin < 0 || tin > 40 || note < 0 || note > 11 || !towerIs(tower)) {
            return -2;
        }
        long coins = 0;
        while (now.heap + coins * now.coin < ounces) {
            coins++;
        }
        if (coins > now.purse || now.load(tower) + ounces > now.towers.get(tower) || now.bells.size() == 10
                || acts.size() == 40) {
            return -5;
        }
        act();
        now.purse -= coins;
        now.heap += coins * now.coin - ounces;
        Bell bell = new Bell();
        bell.ounces = ounces;
        bell.tin = tin;
        bell.note = note;
        bell.tower = tower;
        now.bells.add(bell);
        return now.bells.size() - 1;
    }

    public int passes() {
        if (now == null) {
            return -2;
        }
        if (now.year == 20 || acts.size() == 40) {
            return -5;
        }
        act();
        now.pass();
        return now.year;
    }

    public int cracks(int bell) {
        if (!bellIs(bell)) {
            return -2;
        }
        if (!now.bells.get(bell).rings() || acts.size() == 40) {
            return -5;
        }
        act();
        now.bells.get(bell).cracked = true;
        return 0;
    }

    public int undo() {
        if (now == null) {
            return -2;
        }
        if (acts.isEmpty()) {
            return -5;
        }
        now = acts.remove(acts.size() - 1);
        return acts.size();
    }

    public int anew() {
        if (now == null) {
            return -2;
        }
        int many = acts.size();
        while (!acts.isEmpty()) {
            undo();
        }
        return many;
    }

    public long plan(int slot, int what) {
        if (slot < 0 || slot > 3 || what < 0 || what > 5 || now == null) {
            return -2;
        }
        if (rows[slot] == null) {
            return -6;
        }
        if (rows[slot].length % 2 == 1) {
            return -2;
        }
        for (int i = 0; i < rows[slot].length; i += 2) {
            long year = rows[slot][i];
            long bell = rows[slot][i + 1];
            if (year < 0 || year > 19 || bell < 0 || bell >= now.bells.size()) {
                return -2;
            }
        }
        Now then = now.copy();
        int missed = -1;
        int unpaid = -1;
        int not = rows[slot].length / 2;
        while (then.year < 20) {
            for (int i = 0; i < rows[slot].length; i += 2) {
                int bell = (int) rows[slot][i + 1];
                if (rows[slot][i] == then.year && then.why(bell) == 0) {
                    then.melt(bell);
                    not--;
                }
            }
            int year = then.year;
            missed = missed == -1 && !then.missers().isEmpty() ? year : missed;
            unpaid = !then.pass() && unpaid == -1 ? year : unpaid;
        }
        long[] all = {then.purse, then.trust, then.debt, missed, not, unpaid};
        return all[what];
    }

    // ---- sets ----

    private boolean canMelt(Now from, List<Integer> rest) {
        if (rest.isEmpty()) {
            return true;
        }
        for (int bell : rest) {
            if (from.why(bell) == 0) {
                Now then = from.copy();
                then.melt(bell);
                List<Integer> others = new ArrayList<>(rest);
                others.remove((Integer) bell);
                // an order that begins with another can begin with this one too: how many hang is all that counts
                return canMelt(then, others);
            }
        }
        return false;
    }

    private List<Integer> lawfulSets() {
        List<Integer> all = new ArrayList<>();
        for (int set = 0; set < sets(); set++) {
            if (canMelt(now, members(set))) {
                all.add(set);
            }
        }
        return all;
    }

    private Now melted(int set) {
        Now then = now.copy();
        for (int bell : members(set)) {
            then.melt(bell);
        }
        return then;
    }

    private boolean paysAll(int set) {
        Now then = melted(set);
        boolean all = true;
        while (then.year < 20) {
            all = then.pass() && all;
        }
        return all;
    }

    private int lastTrust(int set) {
        Now then = melted(set);
        while (then.year < 20) {
            then.pass();
        }
        return then.trust;
    }

    private int best(List<Integer> some, Comparator<Integer> order) {
        return some.stream().min(order.thenComparing(Comparator.naturalOrder())).orElse(-1);
    }

    private int firstPaying(Comparator<Integer> order) {
        List<Integer> some = lawfulSets();
        some.sort(order.thenComparing(Comparator.naturalOrder()));
        for (int set : some) {
            if (paysAll(set)) {
                return set;
            }
        }
        return -1;
    }

    public int enough() {
        int set = melted();
        return set < 0 ? set : Integer.bitCount(set);
    }

    public int melted() {
        return now == null ? -2 : firstPaying(Comparator.comparing(Integer::bitCount));
    }

    public int ounces() {
        int set = lightest();
        return set < 0 ? set : weight(set);
    }

    public int lightest() {
        return now == null ? -2 : firstPaying(Comparator.comparing(this::weight));
    }

    public int loud() {
        return now == null ? -2 : lawfulSets().stream().mapToInt(this::lastTrust).max().orElse(-9);
    }

    public int loudly() {
        if (now == null) {
            return -2;
        }
        Map<Integer, Integer> trusts = new HashMap<>();
        List<Integer> some = lawfulSets();
        for (int set : some) {
            trusts.put(set, lastTrust(set));
        }
        return best(some, Comparator.comparing((Integer set) -> -trusts.get(set)).thenComparing(Integer::bitCount));
    }

    public int lawful(int set) {
        if (now == null || set < 0 || set >= sets()) {
            return -2;
        }
        return canMelt(now, members(set)) ? 1 : 0;
    }

    private boolean ringingSet(int set) {
        return members(set).stream().allMatch(bell -> now.bells.get(bell).rings());
    }

    private Now without(int set) {
        Now then = now.copy();
        for (int bell : members(set)) {
            then.bells.get(bell).hangs = false;
        }
        return then;
    }

    public int silent() {
        int set = silence();
        return set < 0 ? set : Integer.bitCount(set);
    }

    public int silence() {
        if (now == null) {
            return -2;
        }
        if (now.wards.isEmpty() || now.peal.isEmpty() || !now.missers().isEmpty()) {
            return -1;
        }
        List<Integer> some = new ArrayList<>();
        for (int set = 0; set < sets(); set++) {
            if (ringingSet(set) && !without(set).missers().isEmpty()) {
                some.add(set);
            }
        }
        return best(some, Comparator.comparing(Integer::bitCount));
    }

    public int guarded() {
        if (now == null) {
            return -2;
        }
        int all = 0;
        for (int bell = 0; bell < now.bells.size(); bell++) {
            boolean lost = false;
            for (int ward = 0; ward < now.wards.size(); ward++) {
                Set<Integer> before = now.heard(ward);
                before.retainAll(now.peal);
                lost |= !without(1 << bell).heard(ward).containsAll(before);
            }
            all += now.bells.get(bell).rings() && lost ? 1 << bell : 0;
        }
        return all;
    }

    private BigInteger[] alloyOf(int set) {
        BigInteger above = BigInteger.ZERO;
        for (int bell : members(set)) {
            above = above.add(BigInteger.valueOf((long) now.bells.get(bell).ounces * now.bells.get(bell).tin));
        }
        BigInteger below = BigInteger.valueOf(weight(set));
        BigInteger shared = above.gcd(below);
        return new BigInteger[] {above.divide(shared), below.divide(shared)};
    }

    public int alloy(int set, int what) {
        if (now == null || set < 1 || set >= sets() || what < 0 || what > 1) {
            return -2;
        }
        return alloyOf(set)[what].intValue();
    }

    public int casts(int ounces, int from, int to) {
        int set = castOf(ounces, from, to);
        return set < 0 ? set : weight(set);
    }

    public int castOf(int ounces, int from, int to) {
        if (now == null || ounces < 1 || ounces > 10000 || from < 0 || from > 40 || to < 0 || to > 40 || to < from) {
            return -2;
        }
        List<Integer> some = new ArrayList<>();
        for (int set = 1; set < sets(); set++) {
            int left = members(set).stream().mapToInt(bell -> now.bells.get(bell).left()).sum();
            BigInteger[] alloy = alloyOf(set);
            boolean within = alloy[0].compareTo(alloy[1].multiply(BigInteger.valueOf(from))) >= 0
                    && alloy[0].compareTo(alloy[1].multiply(BigInteger.valueOf(to))) <= 0;
            if (members(set).stream().allMatch(bell -> now.bells.get(bell).hangs) && within && left >= ounces) {
                some.add(set);
            }
        }
        return best(some, Comparator.comparing(this::weight));
    }

    private List<Integer> testedSets(int tin, int coins) {
        List<Integer> some = new ArrayList<>();
        for (int set = 1; set < sets(); set++) {
            BigInteger[] alloy = alloyOf(set);
            if (alloy[0].divide(alloy[1]).intValue() == tin && (coins == -1 || coinsOf(set) == coins)) {
                some.add(set);
            }
        }
        return some;
    }

    private boolean noTest(int tin, int coins) {
        return now == null || tin < 0 || tin > 40 || coins < -1;
    }

    public int tested(int tin, int coins) {
        return noTest(tin, coins) ? -2 : testedSets(tin, coins).size();
    }

    public int sure(int tin, int coins, int what) {
        if (noTest(tin, coins) || what < 0 || what > 1) {
            return -2;
        }
        List<Integer> some = testedSets(tin, coins);
        if (some.isEmpty()) {
            return 0;
        }
        return what == 0 ? some.stream().reduce(-1, (a, b) -> a & b) : some.stream().reduce(0, (a, b) -> a | b);
    }

    public int few(int tin, int coins) {
        return noTest(tin, coins) ? -2
                : testedSets(tin, coins).stream().mapToInt(Integer::bitCount).min().orElse(-1);
    }

    // ---- towers ----

    private boolean canHang(List<Integer> ounces, int at, int[] room) {
        if (at == ounces.size()) {
            return true;
        }
        for (int i = 0; i < room.length; i++) {
            if (room[i] >= ounces.get(at)) {
                room[i] -= ounces.get(at);
                boolean can = canHang(ounces, at + 1, room);
                room[i] += ounces.get(at);
                if (can) {
                    return true;
                }
            }
        }
        return false;
    }

    public int hold() {
        int set = held();
        return set < 0 ? set : Integer.bitCount(set);
    }

    public int held() {
        if (now == null) {
            return -2;
        }
        List<Integer> heavy = new ArrayList<>();
        for (Bell bell : now.bells) {
            if (bell.hangs) {
                heavy.add(bell.ounces);
            }
        }
        heavy.sort(Comparator.reverseOrder());
        List<Integer> some = new ArrayList<>();
        for (int set = 0; set < 1 << now.towers.size(); set++) {
            List<Integer> room = new ArrayList<>();
            for (int tower = 0; tower < now.towers.size(); tower++) {
                if ((set & 1 << tower) != 0) {
                    room.add(now.towers.get(tower));
                }
            }
            if (canHang(heavy, 0, room.stream().mapToInt(one -> one).toArray())) {
                some.add(set);
            }
        }
        return best(some, Comparator.comparing(Integer::bitCount));
    }

    public int fills(int tower) {
        int set = filled(tower);
        return set < 0 ? set : weight(set);
    }

    public int filled(int tower) {
        if (!towerIs(tower)) {
            return -2;
        }
        List<Integer> some = new ArrayList<>();
        for (int set = 0; set < sets(); set++) {
            if ((set & hangingBits()) == set && weight(set) <= now.towers.get(tower)) {
                some.add(set);
            }
        }
        return best(some, Comparator.comparing((Integer set) -> -weight(set)));
    }

    public int pays(int n) {
        int set = payingSet(n);
        return set < 0 ? set : coinsOf(set);
    }

    public int paid(int n) {
        int set = payingSet(n);
        return set < 0 ? set : Integer.bitCount(set);
    }

    private int payingSet(int n) {
        if (now == null || n < 0 || n > 1000000) {
            return -2;
        }
        Set<Integer> usable = new TreeSet<>();
        for (int set : lawfulSets()) {
            usable.addAll(members(set));
        }
        List<Integer> some = new ArrayList<>();
        for (int set = 0; set < sets(); set++) {
            if (usable.containsAll(members(set)) && coinsOf(set) >= n) {
                some.add(set);
            }
        }
        return best(some, Comparator.comparing(this::coinsOf).thenComparing(Integer::bitCount));
    }

    // ---- years ----

    public int sundays() {
        if (now == null) {
            return -2;
        }
        int many = 0;
        for (Now then = now.copy(); then.year < 20; then.pass()) {
            many += then.missers().isEmpty() ? 1 : 0;
        }
        return many;
    }

    public int broke() {
        if (now == null) {
            return -2;
        }
        for (Now then = now.copy(); then.year < 20;) {
            if (!then.pass()) {
                return then.year - 1;
            }
        }
        return -1;
    }

    public int hears(int bell) {
        if (!bellIs(bell)) {
            return -2;
        }
        int all = 0;
        for (int ward = 0; ward < now.wards.size(); ward++) {
            boolean near = now.wards.get(ward).contains(now.bells.get(bell).tower);
            all += near && now.bells.get(bell).rings() ? 1 << ward : 0;
        }
        return all;
    }

    private Now behind(int year) {
        Now then = now.copy();
        while (then.year <= year) {
            then.pass();
        }
        return then;
    }

    private boolean yearIs(int year) {
        return now != null && year >= now.year && year < 20;
    }

    public int clear() {
        if (now == null) {
            return -2;
        }
        for (int first = now.year; first < 20; first++) {
            boolean none = true;
            for (int year = first; year < 20; year++) {
                none &= behind(year).debt == 0;
            }
            if (none) {
                return first;
            }
        }
        return -1;
    }

    public long rest(int year) {
        return yearIs(year) ? behind(year).purse - behind(year).debt : NO_REST;
    }

    public int trust(int year) {
        return yearIs(year) ? behind(year).trust : -2;
    }

    public int rings() {
        if (now == null) {
            return -2;
        }
        Set<Integer> notes = new TreeSet<>();
        for (Bell bell : now.bells) {
            if (bell.rings()) {
                notes.add(bell.note);
            }
        }
        return bits(notes);
    }

    public int note(int note) {
        if (now == null || note < 0 || note > 11) {
            return -2;
        }
        int all = 0;
        for (int bell = 0; bell < now.bells.size(); bell++) {
            all += now.bells.get(bell).hangs && now.bells.get(bell).note == note ? 1 << bell : 0;
        }
        return all;
    }

    /** Rows that go on behind a last note; how many there are of each set is kept, as they are many. */
    private int rowsBehind(List<Integer> notes, int used, int last, Map<List<Integer>, Integer> known) {
        if (used == (1 << notes.size()) - 1) {
            return 1;
        }
        Integer before = known.get(List.of(used, last));
        if (before != null) {
            return before;
        }
        int sum = 0;
        for (int i = 0; i < notes.size(); i++) {
            if ((used & 1 << i) == 0 && (last < 0 || Math.abs(notes.get(i) - last) != 1)) {
                sum += rowsBehind(notes, used | 1 << i, notes.get(i), known);
            }
        }
        known.put(List.of(used, last), sum);
        return sum;
    }

    public int changes() {
        if (now == null) {
            return -2;
        }
        TreeSet<Integer> notes = new TreeSet<>();
        for (Bell bell : now.bells) {
            if (bell.rings()) {
                notes.add(bell.note);
            }
        }
        return notes.isEmpty() ? 0 : rowsBehind(new ArrayList<>(notes), 0, -9, new HashMap<>());
    }

    private Object[] frost(long seed) {
        Now then = now.copy();
        BigInteger x = BigInteger.valueOf(seed);
        int missed = -1;
        while (then.year < 20) {
            for (Bell bell : then.bells) {
                if (bell.rings()) {
                    x = x.multiply(BigInteger.valueOf(1103515245)).add(BigInteger.valueOf(12345))
                            .mod(BigInteger.valueOf(2147483648L));
                    bell.cracked = x.intValue() / 65536 % 100 < then.frost;
                }
            }
            missed = missed < 0 && !then.missers().isEmpty() ? then.year : missed;
            then.pass();
        }
        return new Object[] {then, missed};
    }

    public int drawn(int seed, int what) {
        if (now == null || seed < 0 || seed > 2000000000 || what < 0 || what > 2) {
            return -2;
        }
        Object[] end = frost(seed);
        Now then = (Now) end[0];
        int cracked = 0;
        for (int bell = 0; bell < then.bells.size(); bell++) {
            cracked += then.bells.get(bell).cracked ? 1 << bell : 0;
        }
        int[] all = {cracked, then.trust, (Integer) end[1]};
        return all[what];
    }

    public int winters(int seed, int n) {
        if (now == null || seed < 0 || seed > 2000000000 || n < 1 || n > 20) {
            return -2;
        }
        int many = 0;
        for (int i = 0; i < n; i++) {
            many += ((Now) frost((long) seed + i)[0]).debt == 0 ? 1 : 0;
        }
        return many;
    }

    // ---- the rest ----

    public int raise(int due, int n) {
        if (now == null || due < 0 || due >= now.dues.size() || n < 1 || n > 1000000) {
            return -2;
        }
        if (!acts.isEmpty()) {
            return -5;
        }
        now = now.copy();
        return now.dues.set(due, new Due(n, now.dues.get(due).year)).much;
    }

    public int tax(int n) {
        if (now == null || n < 0 || n > 100000) {
            return -2;
        }
        if (!acts.isEmpty()) {
            return -5;
        }
        int before = now.tax;
        now = now.copy();
        now.tax = n;
        return before;
    }

    public int count(int what) {
        int full = (int) Arrays.stream(rows).filter(row -> row != null).count();
        Now town = now == null ? new Now() : now;
        int[] all = {town.bells.size(), town.towers.size(), town.wards.size(), town.dues.size(), town.coin, town.tax,
            town.frost, town.peal.size(), acts.size(), town.lines, tape.length(), full};
        return what < 0 || what > 11 ? -1 : all[what];
    }

    public int image(int k) {
        if (k < 0 || k > 2) {
            return -2;
        }
        images[k] = new Image(now, acts);
        return 0;
    }

    public int back(int k) {
        if (k < 0 || k > 2) {
            return -2;
        }
        if (images[k] == null) {
            return -6;
        }
        now = images[k].now;
        acts = new ArrayList<>(images[k].acts);
        return 0;
    }

    public int row(int slot, int width, int n) {
        if (slot < 0 || slot > 3 || width < 0 || width > 3 || n > 60) {
            return -2;
        }
        if (n < 0) {
            return -3;
        }
        rows[slot] = new long[n];
        widths[slot] = width;
        return 0;
    }

    public int write(int slot, int i, long v) {
        if (slot < 0 || slot > 3) {
            return -2;
        }
        if (rows[slot] == null) {
            return -6;
        }
        if (i < 0 || i >= rows[slot].length) {
            return -7;
        }
        int gone = 64 - (8 << widths[slot]);
        rows[slot][i] = v << gone >> gone;
        return 0;
    }

    public int paste(int slot, int i, int to, int k, int n) {
        if (slot < 0 || slot > 3 || to < 0 || to > 3) {
            return -2;
        }
        if (rows[slot] == null || rows[to] == null) {
            return -6;
        }
        if (widths[slot] != widths[to]) {
            return -8;
        }
        if (i < 0 || k < 0 || n < 0 || (long) i + n > rows[slot].length || (long) k + n > rows[to].length) {
            return -7;
        }
        long[] were = rows[slot].clone();
        for (int step = 0; step < n; step++) {
            rows[to][k + step] = were[i + step];
        }
        return 0;
    }
}
