import java.util.ArrayList;
import java.util.List;
import java.util.Random;

/** Random towns: what is foretold and chosen, against acts really done, and against looking at everything. */
public final class BruteTest {
    private static final int TOWNS = 400;

    private final Random random;
    private final BellMoney x;
    private final int base;
    private final int bells;
    private final int sets;
    private final boolean[] lawful;
    private final boolean[] paysAll;
    private final int[] lastTrust;

    public static void main(String[] args) {
        for (int seed = 1; seed <= TOWNS; seed++) {
            new BruteTest(seed).compare();
        }
        Check.end();
    }

    private BruteTest(int seed) {
        random = new Random(seed);
        x = Tell.town(randomTown());
        for (int i = random.nextInt(9); i > 0; i--) {
            act();
        }
        base = x.count(8);
        bells = x.count(0);
        sets = 1 << bells;
        lawful = new boolean[sets];
        paysAll = new boolean[sets];
        lastTrust = new int[sets];
    }

    private int upTo(int n) {
        return random.nextInt(n + 1);
    }

    private String randomTown() {
        StringBuilder text = new StringBuilder();
        text.append("town coin ").append(1 + upTo(20)).append(" purse ").append(upTo(300)).append(" tax ")
                .append(upTo(40)).append(" trust ").append(upTo(9)).append(" frost ").append(upTo(12)).append(';');
        int towers = 1 + upTo(3);
        int[] room = new int[towers];
        for (int tower = 0; tower < towers; tower++) {
            room[tower] = 100 + upTo(900);
            text.append("tower holds ").append(room[tower]).append(';');
        }
        int told = 0;
        for (int i = upTo(8); i > 0; i--) {
            int ounces = 1 + upTo(400);
            int tower = upTo(towers - 1);
            if (ounces <= room[tower]) {
                room[tower] -= ounces;
                told++;
                text.append("bell ").append(ounces).append(" tin ").append(upTo(40)).append(" note ").append(upTo(5))
                        .append(" in ").append(tower).append(upTo(9) == 0 ? " cracked;" : ";");
            }
        }
        for (int i = upTo(4); i > 0; i--) {
            text.append("ward ").append(upTo(towers - 1)).append(' ').append(upTo(towers - 1)).append(';');
        }
        if (upTo(4) > 0) {
            text.append("peal ").append(upTo(5)).append(upTo(1) == 0 ? ";" : " 1;");
        }
        for (int i = upTo(12); i > 0; i--) {
            text.append("due ").append(1 + upTo(120)).append(" in ").append(upTo(19)).append(';');
        }
        if (told > 1) {
            for (int i = upTo(3); i > 0; i--) {
                int first = upTo(told - 1);
                text.append("after ").append(first).append(' ').append((first + 1 + upTo(told - 2)) % told).append(';');
            }
            text.append(upTo(2) == 0 ? "keeps 1;" : "").append("least ").append(upTo(3)).append(';');
        }
        return text.toString();
    }

    private void act() {
        switch (upTo(3)) {
            case 0:
                x.melt(upTo(9));
                break;
            case 1:
                x.cast(1 + upTo(60), upTo(40), upTo(11), upTo(3));
                break;
            case 2:
                x.cracks(upTo(9));
                break;
            default:
                x.passes();
                break;
        }
    }

    private void takeBackTo(int acts) {
        for (int i = x.count(8); i > acts; i--) {
            x.undo();
        }
    }

    private void compare() {
        meltAll(0);
        chosen();
        quietYears();
        silence();
        mixtures();
        towers();
        sums();
        notes();
        frost();
        plans();
        images();
    }

    /** Melts on from here in every order, and passes all years behind each set. */
    private void meltAll(int set) {
        lawful[set] = true;
        int acts = x.count(8);
        boolean all = true;
        for (int year = (int) x.now(0); year < 20; year++) {
            x.passes();
            all &= x.now(4) == 0;
        }
        paysAll[set] = all;
        lastTrust[set] = (int) x.now(3);
        takeBackTo(acts);
        for (int bell = 0; bell < bells; bell++) {
            int more = set | 1 << bell;
            if (!lawful[more] && x.melt(bell) >= 0) {
                meltAll(more);
                takeBackTo(acts);
            }
        }
    }

    private int ounces(int set) {
        int sum = 0;
        for (int bell = 0; bell < bells; bell++) {
            sum += (set >> bell & 1) * x.bell(bell, 0);
        }
        return sum;
    }

    private int coins(int set) {
        int sum = 0;
        for (int bell = 0; bell < bells; bell++) {
            sum += (set >> bell & 1) * x.coins(bell);
        }
        return sum;
    }

    private void chosen() {
        int few = -1;
        int light = -1;
        int loud = 0;
        for (int set = 0; set < sets; set++) {
            Check.same("lawful", x.lawful(set), lawful[set] ? 1 : 0);
            if (lawful[set] && paysAll[set]) {
                few = few < 0 || Integer.bitCount(set) < Integer.bitCount(few) ? set : few;
                light = light < 0 || ounces(set) < ounces(light) ? set : light;
            }
            if (lawful[set] && (lastTrust[set] > lastTrust[loud]
                    || lastTrust[set] == lastTrust[loud] && Integer.bitCount(set) < Integer.bitCount(loud))) {
                loud = set;
            }
        }
        Check.same("melted", x.melted(), few);
        Check.same("enough", x.enough(), few < 0 ? -1 : Integer.bitCount(few));
        Check.same("lightest", x.lightest(), light);
        Check.same("ounces", x.ounces(), light < 0 ? -1 : ounces(light));
        Check.same("loudly", x.loudly(), loud);
        Check.same("loud", x.loud(), lastTrust[loud]);
    }

    private void quietYears() {
        int now = (int) x.now(0);
        int sundays = x.sundays();
        int broke = x.broke();
        int clear = x.clear();
        long[] rest = new long[20];
        int[] trust = new int[20];
        for (int year = 0; year < 20; year++) {
            rest[year] = x.rest(year);
            trust[year] = x.trust(year);
        }
        int dueSundays = 0;
        int dueBroke = -1;
        int dueClear = -1;
        for (int year = now; year < 20; year++) {
            dueSundays += x.now(6) == 0 ? 1 : 0;
            x.passes();
            dueBroke = dueBroke < 0 && x.now(4) > 0 ? year : dueBroke;
            dueClear = x.now(4) > 0 ? -1 : dueClear < 0 ? year : dueClear;
            Check.same("rest", rest[year], x.now(1) - x.now(4));
            Check.same("trust", trust[year], x.now(3));
        }
        Check.same("sundays", sundays, dueSundays);
        Check.same("broke", broke, dueBroke);
        Check.same("clear", clear, dueClear);
        takeBackTo(base);
    }

    private void silence() {
        int ringing = 0;
        for (int bell = 0; bell < bells; bell++) {
            ringing |= x.bell(bell, 4) == 1 && x.bell(bell, 5) == 0 ? 1 << bell : 0;
        }
        boolean already = x.now(6) != 0;
        int due = -1;
        int guarded = 0;
        for (int set = 1; set < sets; set++) {
            if ((set & ~ringing) == 0) {
                int missed = missed();
                for (int bell = 0; bell < bells; bell++) {
                    if ((set >> bell & 1) == 1) {
                        Check.same("cracks", x.cracks(bell), 0);
                    }
                }
                if (!already && x.now(6) != 0 && (due < 0 || Integer.bitCount(set) < Integer.bitCount(due))) {
                    due = set;
                }
                if (Integer.bitCount(set) == 1 && missed() > missed) {
                    guarded |= set;
                }
                takeBackTo(base);
            }
        }
        Check.same("silence", x.silence(), due);
        Check.same("silent", x.silent(), due < 0 ? -1 : Integer.bitCount(due));
        Check.same("guarded", x.guarded(), guarded);
    }

    private int missed() {
        int sum = 0;
        for (int ward = 0; ward < x.count(2); ward++) {
            sum += x.ward(ward, 2);
        }
        return sum;
    }

    private void mixtures() {
        int ounces = 1 + upTo(500);
        int from = upTo(30);
        int to = from + upTo(10);
        int tin = upTo(40);
        int wanted = upTo(3) == 0 ? coins(upTo(sets - 1)) : -1;
        int cast = -1;
        int tested = 0;
        int inAll = sets - 1;
        int inSome = 0;
        int few = -1;
        for (int set = 1; set < sets; set++) {
            double alloy = 0;
            int left = 0;
            for (int bell = 0; bell < bells; bell++) {
                if ((set >> bell & 1) == 1) {
                    alloy += (double) x.bell(bell, 0) * x.bell(bell, 1);
                    left += x.coins(bell) * x.count(4) + x.over(bell);
                }
            }
            alloy /= ounces(set);
            Check.yes("alloy", Math.abs(alloy - (double) x.alloy(set, 0) / x.alloy(set, 1)) < 1e-9);
            if ((set & ~(int) x.now(5)) == 0 && left >= ounces && alloy >= from && alloy <= to
                    && (cast < 0 || ounces(set) < ounces(cast))) {
                cast = set;
            }
            if ((int) (alloy + 1e-9) == tin && (wanted < 0 || coins(set) == wanted)) {
                tested++;
                inAll &= set;
                inSome |= set;
                few = few < 0 ? Integer.bitCount(set) : Math.min(few, Integer.bitCount(set));
            }
        }
        Check.same("castOf", x.castOf(ounces, from, to), cast);
        Check.same("casts", x.casts(ounces, from, to), cast < 0 ? -1 : ounces(cast));
        Check.same("tested", x.tested(tin, wanted), tested);
        Check.same("in all", x.sure(tin, wanted, 0), tested == 0 ? 0 : inAll);
        Check.same("in some", x.sure(tin, wanted, 1), inSome);
        Check.same("few", x.few(tin, wanted), few);
    }

    private boolean fits(int bell, int towers, int[] load) {
        if (bell == bells) {
            return true;
        }
        if (x.bell(bell, 4) == 0) {
            return fits(bell + 1, towers, load);
        }
        for (int tower = 0; tower < x.count(1); tower++) {
            int ounces = x.bell(bell, 0);
            if ((towers >> tower & 1) == 1 && load[tower] + ounces <= x.tower(tower, 0)) {
                load[tower] += ounces;
                if (fits(bell + 1, towers, load)) {
                    return true;
                }
                load[tower] -= ounces;
            }
        }
        return false;
    }

    private void towers() {
        int best = -1;
        for (int towers = 0; towers < 1 << x.count(1); towers++) {
            if ((best < 0 || Integer.bitCount(towers) < Integer.bitCount(best)) && fits(0, towers, new int[4])) {
                best = towers;
            }
        }
        Check.same("held", x.held(), best);
        Check.same("hold", x.hold(), best < 0 ? -1 : Integer.bitCount(best));
        for (int tower = 0; tower < x.count(1); tower++) {
            int filled = 0;
            for (int set = 1; set < sets; set++) {
                if ((set & ~(int) x.now(5)) == 0 && ounces(set) <= x.tower(tower, 0) && ounces(set) > ounces(filled)) {
                    filled = set;
                }
            }
            Check.same("filled", x.filled(tower), filled);
            Check.same("fills", x.fills(tower), ounces(filled));
        }
    }

    private void sums() {
        int usable = 0;
        for (int set = 0; set < sets; set++) {
            usable |= lawful[set] ? set : 0;
        }
        for (int n : new int[] {0, 1, upTo(30), upTo(100), coins(upTo(sets - 1)), coins(usable), coins(usable) + 1}) {
            int least = -1;
            int few = -1;
            for (int set = 0; set < sets; set++) {
                int coins = coins(set);
                if ((set & ~usable) == 0 && coins >= n && (least < 0 || coins <= least)) {
                    few = coins == least ? Math.min(few, Integer.bitCount(set)) : Integer.bitCount(set);
                    least = coins;
                }
            }
            Check.same("pays", x.pays(n), least);
            Check.same("paid", x.paid(n), few);
        }
    }

    private static int rows(int last, List<Integer> left) {
        if (left.isEmpty()) {
            return 1;
        }
        int sum = 0;
        for (Integer note : left) {
            if (last < 0 || Math.abs(note - last) != 1) {
                List<Integer> others = new ArrayList<>(left);
                others.remove(note);
                sum += rows(note, others);
            }
        }
        return sum;
    }

    private void notes() {
        List<Integer> notes = new ArrayList<>();
        for (int note = 0; note < 12; note++) {
            int hang = x.note(note);
            boolean rings = false;
            for (int bell = 0; bell < bells; bell++) {
                rings |= (hang >> bell & 1) == 1 && x.bell(bell, 5) == 0;
            }
            Check.same("rings", x.rings() >> note & 1, rings ? 1 : 0);
            if (rings) {
                notes.add(note);
            }
        }
        Check.same("changes", x.changes(), notes.isEmpty() ? 0 : rows(-1, notes));
    }

    private void frost() {
        int seed = random.nextInt(2000000000);
        int good = 0;
        for (int i = 0; i < 3; i++) {
            int cracked = x.drawn(seed + i, 0);
            int trust = x.drawn(seed + i, 1);
            int first = x.drawn(seed + i, 2);
            long draw = seed + i;
            int dueFirst = -1;
            for (int year = (int) x.now(0); year < 20; year++) {
                for (int bell = 0; bell < bells; bell++) {
                    if (x.bell(bell, 4) == 1 && x.bell(bell, 5) == 0) {
                        draw = draw * 1103515245L + 12345L & 0x7fffffffL;
                        if ((draw >> 16) % 100 < x.count(6)) {
                            x.cracks(bell);
                        }
                    }
                }
                dueFirst = dueFirst < 0 && x.now(6) != 0 ? year : dueFirst;
                x.passes();
            }
            good += x.now(4) == 0 ? 1 : 0;
            for (int bell = 0; bell < bells; bell++) {
                Check.same("cracked", cracked >> bell & 1, x.bell(bell, 5));
            }
            Check.same("trust by frost", trust, x.now(3));
            Check.same("missed by frost", first, dueFirst);
            takeBackTo(base);
        }
        Check.same("winters", x.winters(seed, 3), good);
    }

    private void plans() {
        if (bells == 0) {
            return;
        }
        int steps = upTo(12);
        int[] numbers = new int[2 * steps];
        for (int i = 0; i < steps; i++) {
            numbers[2 * i] = upTo(1) == 0 ? upTo(5) : upTo(19);
            numbers[2 * i + 1] = upTo(bells - 1);
        }
        Tell.plan(x, 2, numbers);
        long[] got = new long[6];
        for (int what = 0; what < 6; what++) {
            got[what] = x.plan(2, what);
        }
        int done = 0;
        int missed = -1;
        int unpaid = -1;
        for (int year = (int) x.now(0); year < 20; year++) {
            for (int i = 0; i < steps; i++) {
                if (numbers[2 * i] == year && x.melt(numbers[2 * i + 1]) >= 0) {
                    done++;
                }
            }
            missed = missed < 0 && x.now(6) != 0 ? year : missed;
            x.passes();
            unpaid = unpaid < 0 && x.now(4) != 0 ? year : unpaid;
        }
        Check.same("plan's purse", got[0], x.now(1));
        Check.same("plan's trust", got[1], x.now(3));
        Check.same("plan's debt", got[2], x.now(4));
        Check.same("plan's first missed", got[3], missed);
        Check.same("plan's not melted", got[4], steps - done);
        Check.same("plan's first unpaid", got[5], unpaid);
        takeBackTo(base);
    }

    /** All there is to see of a town, with what follows from every part of it. */
    private static String look(BellMoney x) {
        StringBuilder all = new StringBuilder();
        for (int what = 0; what < 10; what++) {
            all.append(x.count(what)).append(' ').append(x.now(what)).append(' ');
        }
        for (int bell = 0; bell < 10; bell++) {
            for (int what = 0; what < 6; what++) {
                all.append(x.bell(bell, what)).append(' ');
            }
            all.append(x.why(bell)).append(' ').append(x.coins(bell)).append(' ').append(x.hears(bell)).append(' ');
        }
        for (int i = 0; i < 12; i++) {
            all.append(x.tower(i, 0)).append(' ').append(x.ward(i, 0)).append(' ').append(x.ward(i, 2)).append(' ')
                    .append(x.due(i, 0)).append(' ').append(x.due(i, 1)).append(' ');
        }
        for (int year = 0; year < 20; year++) {
            all.append(x.rest(year)).append(' ').append(x.trust(year)).append(' ');
        }
        return all.append(x.asked()).append(' ').append(x.loudly()).append(' ').append(x.drawn(5, 0)).toString();
    }

    private void images() {
        List<String> looks = new ArrayList<>();
        x.image(1);
        for (int acts = base; acts > 0; acts--) {
            looks.add(look(x));
            x.undo();
        }
        looks.add(look(x));
        x.back(1);
        for (int i = upTo(3); i > 0; i--) {
            String text = randomTown();
            Tell.town(x, text);
            Check.yes("as in a new object", look(x).equals(look(Tell.town(text))));
            for (int k = upTo(10); k > 0; k--) {
                act();
            }
        }
        for (int i = upTo(10); i > 0; i--) {
            act();
        }
        x.image(2);
        String other = look(x);
        x.back(1);
        for (String due : looks) {
            Check.yes("back as it was", look(x).equals(due));
            x.undo();
        }
        Check.same("all taken back", x.undo(), -5);
        x.back(2);
        Check.yes("back as it was", look(x).equals(other));
    }
}
