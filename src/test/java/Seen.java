/** What an object answers when it is only asked, as one text: to show that nothing happened. */
final class Seen {
    private Seen() {
    }

    /** The town, how it is now, and what comes of it. */
    static String town(BellMoney x) {
        StringBuilder all = new StringBuilder();
        for (int what = 0; what <= 9; what++) {
            add(all, x.count(what));
        }
        for (int what = 0; what <= 6; what++) {
            add(all, x.now(what));
        }
        for (int bell = 0; bell < x.count(0); bell++) {
            for (int what = 0; what <= 5; what++) {
                add(all, x.bell(bell, what));
            }
            add(all, x.why(bell));
        }
        for (int tower = 0; tower < x.count(1); tower++) {
            add(all, x.tower(tower, 0));
        }
        for (int ward = 0; ward < x.count(2); ward++) {
            add(all, x.ward(ward, 0));
            add(all, x.ward(ward, 2));
        }
        for (int due = 0; due < x.count(3); due++) {
            add(all, x.due(due, 0));
            add(all, x.due(due, 1));
        }
        add(all, x.asked());
        add(all, x.rest(19));
        add(all, x.trust(19));
        add(all, x.drawn(1, 0));
        add(all, x.melted());
        add(all, x.loudly());
        add(all, x.silence());
        add(all, x.held());
        add(all, x.pays(1));
        add(all, x.changes());
        return all.toString();
    }

    /** The town, and the tape's bytes, the fault, the slots too. */
    static String all(BellMoney x) {
        StringBuilder all = new StringBuilder(town(x));
        add(all, x.count(10));
        add(all, x.count(11));
        add(all, x.fault(0));
        add(all, x.fault(1));
        for (int slot = 0; slot < 4; slot++) {
            add(all, x.plan(slot, 0));
            add(all, x.plan(slot, 4));
        }
        return all.toString();
    }

    private static void add(StringBuilder all, long answer) {
        all.append(answer).append(' ');
    }
}
