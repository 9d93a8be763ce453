import java.lang.reflect.InvocationTargetException;
import java.lang.reflect.Method;
import java.lang.reflect.Modifier;
import java.util.ArrayList;
import java.util.Arrays;
import java.util.Comparator;
import java.util.List;
import java.util.Random;

/** Random runs of at most 512 calls, each answer against the one of the plain model. */
public final class ModelTest {
    private static final int RUNS = 400;
    private static final int CALLS = 512;
    private static final int[] EDGES = {Integer.MIN_VALUE, -100, -3, -2, -1, 0, 1, 2, 3, 4, 5, 7, 8, 9, 10, 11, 12, 13, 19,
        20, 21, 40, 41, 59, 60, 61, 100, 101, 255, 256, 1023, 1024, 9999, 10000, 10001, 99999, 100000, 100001, 999999,
        1000000, 1000001, 1999999999, 2000000000, 2000000001, Integer.MAX_VALUE};
    // they would leave little to look at
    private static final List<String> SELDOM = List.of("town", "end", "anew", "back");
    // without these there are forty acts in the end
    private static final List<String> BACKWARD = List.of("feed", "town", "undo", "anew", "back");
    private static final String SIGNS = " ;0123456789abcdeghiklnoprstuwx\n#~{:/`";
    private static final String[] WORDS = {"town", "coin", "purse", "tax", "trust", "frost", "tower", "holds", "bell", "tin",
        "note", "in", "cracked", "ward", "peal", "due", "keeps", "least", "after", ";", ";", "0", "1", "3", "4", "11", "12",
        "40", "41", "100001", "1000001", "99999999999999999999"};

    private final Random random;
    private final int run;
    private final BellMoney x = new BellMoney();
    private final Model model = new Model();
    private final List<String> told = new ArrayList<>();
    private int calls = 0;

    public static void main(String[] args) throws ReflectiveOperationException {
        int from = args.length > 0 ? Integer.parseInt(args[0]) : 1;
        int runs = args.length > 1 ? Integer.parseInt(args[1]) : RUNS;
        List<Method> all = new ArrayList<>();
        for (Method method : BellMoney.class.getDeclaredMethods()) {
            if (Modifier.isPublic(method.getModifiers())) {
                all.add(method);
            }
        }
        all.sort(Comparator.comparing(Method::getName));
        for (int run = from; run < from + runs; run++) {
            new ModelTest(run).go(all);
            new ModelTest(run).texts();
        }
        Check.end();
    }

    private ModelTest(int run) {
        this.run = run;
        random = new Random(run);
    }

    private void go(List<Method> all) throws ReflectiveOperationException {
        boolean same = true;
        if (random.nextInt(20) > 0) {
            same = tell(randomTown());
        }
        boolean onward = upTo(7) == 0;
        while (same && calls < CALLS) {
            Method method = all.get(random.nextInt(all.size()));
            String name = method.getName();
            if (onward && BACKWARD.contains(name)) {
                same = ask("cracks", any(x.count(0))) && ask("cast", 1 + upTo(20), upTo(40), upTo(11), any(x.count(1)));
            } else if (name.equals("feed")) {
                String text = randomTown();
                same = random.nextInt(12) > 0 && x.count(9) > 0 || tell(random.nextInt(3) > 0 ? text : broken(text));
            } else if (SELDOM.contains(name)) {
                same = random.nextInt(15) > 0 || ask(method, some(name, method.getParameterCount()));
            } else if (name.equals("row")) {
                same = plan() && ask(method, some(name, 3));
            } else {
                same = ask(method, some(name, method.getParameterCount()));
            }
        }
    }

    /** Texts alone, most of them broken, one behind the other. */
    private void texts() throws ReflectiveOperationException {
        boolean same = true;
        while (same && calls < CALLS - 80) {
            String text = randomTown();
            same = tell(upTo(5) == 0 ? text : broken(text)) && ask("count", 9);
        }
    }

    private boolean ask(Method method, Object... given) throws ReflectiveOperationException {
        if (calls >= CALLS) {
            return false;
        }
        calls++;
        Method twin = Model.class.getMethod(method.getName(), method.getParameterTypes());
        long due = ((Number) twin.invoke(model, given)).longValue();
        long got;
        try {
            got = ((Number) method.invoke(x, given)).longValue();
        } catch (InvocationTargetException thrown) {
            Check.yes(method.getName() + Arrays.toString(given) + " threw " + thrown.getCause(), false);
            return false;
        }
        String call = method.getName() + Arrays.toString(given);
        Check.same("run " + run + ", call " + calls + ": " + call, got, due);
        told.add(call + " -> " + due);
        if (got != due) {
            System.out.println(String.join("\n", told));
        }
        return got == due;
    }

    private boolean ask(String name, Object... given) throws ReflectiveOperationException {
        for (Method method : BellMoney.class.getMethods()) {
            if (method.getName().equals(name) && Modifier.isFinal(method.getDeclaringClass().getModifiers())) {
                return ask(method, given);
            }
        }
        return false;
    }

    // ---- arguments ----

    private int upTo(int n) {
        return random.nextInt(n + 1);
    }

    private int any(int usual) {
        int die = random.nextInt(40);
        return die > 36 ? EDGES[random.nextInt(EDGES.length)] : die == 1 ? usual + 1 : die == 2 ? -1 : upTo(usual);
    }

    private Object[] some(String name, int many) {
        int bells = x.count(0);
        int[] most;
        switch (name) {
            case "bell":
                most = new int[] {bells, 5};
                break;
            case "tower":
                most = new int[] {x.count(1), 2};
                break;
            case "ward":
                most = new int[] {x.count(2), 2};
                break;
            case "due":
                most = new int[] {x.count(3), 1};
                break;
            case "fault":
                most = new int[] {1};
                break;
            case "fills":
            case "filled":
                most = new int[] {x.count(1)};
                break;
            case "image":
            case "back":
                most = new int[] {2};
                break;
            case "price":
                most = new int[] {upTo(1000000), 9};
                break;
            case "cast":
                most = new int[] {upTo(upTo(1) * 9900 + 100), 40, 11, x.count(1)};
                break;
            case "lawful":
                most = new int[] {(1 << bells) - 1};
                break;
            case "alloy":
                most = new int[] {(1 << bells) - 1, 1};
                break;
            case "casts":
            case "castOf":
                most = new int[] {upTo(3000), 40, 40};
                break;
            case "tested":
            case "few":
            case "sure":
                most = new int[] {40, upTo(120), 1};
                break;
            case "pays":
            case "paid":
                most = new int[] {upTo(1000)};
                break;
            case "rest":
            case "trust":
                most = new int[] {20};
                break;
            case "note":
                most = new int[] {11};
                break;
            case "drawn":
                most = new int[] {upTo(2000000000), 2};
                break;
            case "winters":
                most = new int[] {upTo(2000000000), 20};
                break;
            case "raise":
                most = new int[] {x.count(3), upTo(1000000)};
                break;
            case "tax":
                most = new int[] {upTo(100000)};
                break;
            case "row":
                most = new int[] {3, 3, 8};
                break;
            case "plan":
                most = new int[] {3, 5};
                break;
            case "end":
                most = new int[] {x.count(10)};
                break;
            case "write":
                most = new int[] {3, 8, 10};
                break;
            case "paste":
                most = new int[] {3, 4, 3, 4, 6};
                break;
            case "count":
                most = new int[] {12};
                break;
            case "now":
                most = new int[] {6};
                break;
            default:
                most = new int[] {bells};
                break;
        }
        Object[] given = new Object[many];
        for (int i = 0; i < many; i++) {
            given[i] = any(most[i]);
            if (name.equals("write") && i == 2) {
                given[i] = upTo(4) == 0 ? random.nextLong() : (long) any(most[i]) + 256L * upTo(upTo(1));
            } else if ((name.equals("tested") || name.equals("few") || name.equals("sure")) && i == 1 && upTo(1) == 0) {
                given[i] = -1;
            }
        }
        return given;
    }

    private boolean plan() throws ReflectiveOperationException {
        int steps = upTo(upTo(1) == 0 ? 6 : 10);
        int slot = upTo(3);
        boolean same = ask("row", slot, upTo(3), 2 * steps);
        for (int i = 0; same && i < steps; i++) {
            same = ask("write", slot, 2 * i, (long) upTo(upTo(2) == 0 ? 19 : 3))
                    && ask("write", slot, 2 * i + 1, (long) upTo(Math.max(0, x.count(0) - 1)));
        }
        for (int what = 0; same && what <= 5; what++) {
            same = ask("plan", slot, what);
        }
        return same;
    }

    // ---- texts ----

    private boolean tell(String text) throws ReflectiveOperationException {
        boolean same = upTo(9) == 0 || ask("end", 0);
        int before = x.count(10);
        for (int at = 0; same && at < text.length(); at += 20) {
            Object[] fours = new Object[5];
            for (int i = 0; i < 5; i++) {
                int four = 0;
                for (int k = 0; k < 4; k++) {
                    int place = at + 4 * i + k;
                    four = four << 8 | (place < text.length() ? text.charAt(place) & 255 : random.nextInt(256));
                }
                fours[i] = four;
            }
            same = ask("feed", fours);
        }
        return same && ask("end", before + text.length()) && ask("town") && ask("fault", 0) && ask("fault", 1);
    }

    private String broken(String text) {
        StringBuilder all = new StringBuilder(text);
        for (int i = upTo(2); i >= 0 && all.length() > 0; i--) {
            int at = random.nextInt(all.length());
            switch (random.nextInt(10)) {
                case 0:
                    all.setCharAt(at, SIGNS.charAt(random.nextInt(SIGNS.length())));
                    break;
                case 1:
                    all.deleteCharAt(at);
                    break;
                case 2:
                    all.insert(at, SIGNS.charAt(random.nextInt(SIGNS.length())));
                    break;
                case 3:
                    all.insert(at, " " + WORDS[random.nextInt(WORDS.length)] + " ");
                    break;
                case 4:
                    all.setCharAt(at, (char) random.nextInt(256));
                    break;
                case 5:
                    all.setLength(Math.max(1, at));
                    break;
                case 6:
                    moreLines(all, at);
                    break;
                default:
                    otherToken(all, at);
                    break;
            }
        }
        return all.toString();
    }

    /** The line behind a place, over and over: of some there are too many then. */
    private void moreLines(StringBuilder all, int from) {
        int begin = all.indexOf(";", from) + 1;
        int end = all.indexOf(";", begin) + 1;
        for (int i = upTo(8); i >= 0 && begin > 0 && end > 0 && all.length() < 1300; i--) {
            all.insert(end, all.substring(begin, end));
        }
    }

    /** Another number in a number's place, another word in a word's, from a place on. */
    private void otherToken(StringBuilder all, int from) {
        int at = from;
        while (at > 0 && Character.isLetterOrDigit(all.charAt(at)) && Character.isLetterOrDigit(all.charAt(at - 1))) {
            at--;
        }
        int end = at;
        while (end < all.length() && Character.isLetterOrDigit(all.charAt(end))) {
            end++;
        }
        boolean number = Character.isDigit(all.charAt(at));
        String other = WORDS[random.nextInt(WORDS.length)];
        int edge = Math.max(0, EDGES[random.nextInt(EDGES.length)]);
        all.replace(at, end, number ? Integer.toString(upTo(1) == 0 ? upTo(12) : edge) : other);
    }

    private String blank() {
        return upTo(30) == 0 ? "\n " : " ";
    }

    private String randomTown() {
        int scale = upTo(3);
        int much = scale == 0 ? 1000000 : scale == 1 ? 30 : 200;
        int heavy = scale == 0 ? 10000 : scale == 1 ? 120 : 900;
        StringBuilder text = new StringBuilder();
        text.append("town coin ").append(1 + upTo(scale == 0 ? 99 : 12)).append(blank()).append("purse ")
                .append(upTo(scale == 0 ? 100000 : much)).append(" tax ").append(upTo(scale == 0 ? 100000 : much / 3))
                .append(" trust ").append(upTo(9)).append(" frost ").append(upTo(upTo(1) == 0 ? 8 : 100)).append(';');
        int towers = upTo(15) == 0 ? 0 : 1 + upTo(3);
        int[] room = new int[towers];
        for (int tower = 0; tower < towers; tower++) {
            room[tower] = 1 + upTo(heavy * (1 + upTo(4)));
            text.append("tower holds ").append(room[tower]).append(';').append(upTo(9) == 0 ? "\n" : "");
        }
        int notes = upTo(2) == 0 ? 11 : 1 + upTo(4);
        int bells = 0;
        for (int i = upTo(3) == 0 ? upTo(8) : 8; i > 0 && towers > 0; i--) {
            int tower = upTo(towers - 1);
            int ounces = upTo(3) == 0 ? Math.min(10000, room[tower]) : 1 + upTo(heavy - 1);
            if (ounces >= 1 && ounces <= room[tower]) {
                room[tower] -= ounces;
                bells++;
                text.append("bell ").append(ounces).append(" tin ").append(upTo(40)).append(blank()).append("note ")
                        .append(upTo(notes)).append(" in ").append(tower).append(upTo(12) == 0 ? " cracked" : "").append(';');
            }
        }
        others(text, towers, bells, notes, much);
        return text.toString();
    }

    private void others(StringBuilder text, int towers, int bells, int notes, int much) {
        for (int i = upTo(4); i > 0 && towers > 0; i--) {
            text.append("ward");
            for (int k = upTo(4); k >= 0; k--) {
                text.append(' ').append(upTo(towers - 1));
            }
            text.append(';');
        }
        for (int i = upTo(2); i > 0; i--) {
            text.append("peal");
            for (int k = upTo(2); k >= 0; k--) {
                text.append(blank()).append(upTo(notes));
            }
            text.append(';');
        }
        for (int i = upTo(12); i > 0; i--) {
            text.append("due ").append(1 + upTo(much - 1)).append(" in ").append(upTo(upTo(1) == 0 ? 19 : 3)).append(';');
        }
        for (int i = upTo(2); i > 0 && bells > 0 && upTo(1) == 0; i--) {
            text.append("keeps ").append(upTo(bells - 1)).append(';');
        }
        for (int i = upTo(4); i > 0 && bells > 1; i--) {
            int first = upTo(bells - 1);
            text.append("after ").append(first).append(' ').append((first + 1 + upTo(bells - 2)) % bells).append(';');
        }
        for (int i = upTo(2); i > 0; i--) {
            text.append("least ").append(upTo(upTo(3) == 0 ? 10 : 3)).append(';');
        }
    }
}
