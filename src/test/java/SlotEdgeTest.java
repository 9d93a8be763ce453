/** Promises 23 and 62 to 64, sentence by sentence: rows full and empty, numbers cut, plans and what refuses them. */
public final class SlotEdgeTest {
    private static final String HEAD = "town coin 10 purse 100 tax 20 trust 5 frost 30;";
    private static final int[] FAR = {-1, -2, Integer.MIN_VALUE, Integer.MAX_VALUE};

    public static void main(String[] args) {
        rowSlots();
        rowWidths();
        rowSizes();
        rowInPlaceOfAnother();
        rowRefusedStays();
        rowNoneSuchFirst();
        writePlaces();
        writeRefused();
        writeCut();
        pasteSlots();
        pasteNothing();
        pasteWidths();
        pasteBeyond();
        pasteNone();
        pasteAsTheyWere();
        pasteFirstOf();
        planNoneSuch();
        planNumbers();
        planTwoEach();
        planNothing();
        planEmptyAndFull();
        planInOrder();
        planYears();
        planPassedYears();
        planFirstMissed();
        planFirstUnpaid();
        planChangesNothing();
        Check.end();
    }

    private static void rowSlots() {
        BellMoney x = new BellMoney();
        for (int slot = 0; slot < 4; slot++) {
            Check.same("62: slot " + slot, x.row(slot, 0, 1), 0);
        }
        Check.same("62: a fifth", x.row(4, 0, 1), -2);
        for (int far : FAR) {
            Check.same("62: slot " + far, x.row(far, 0, 1), -2);
        }
    }

    private static void rowWidths() {
        BellMoney x = new BellMoney();
        for (int width = 0; width < 4; width++) {
            Check.same("62: width " + width, x.row(0, width, 1), 0);
        }
        Check.same("62: width 4", x.row(1, 4, 1), -2);
        Check.same("62: width 8", x.row(1, 8, 1), -2);
        for (int far : FAR) {
            Check.same("62: width " + far, x.row(1, far, 1), -2);
        }
        Check.same("62: one row", x.count(11), 1);
    }

    private static void rowSizes() {
        BellMoney x = new BellMoney();
        for (int width = 0; width < 4; width++) {
            Check.same("62: sixty", x.row(width, width, 60), 0);
            Check.same("62: the sixtieth", x.write(width, 59, 1), 0);
            Check.same("62: no more", x.write(width, 60, 1), -7);
            Check.same("62: 61", x.row(width, width, 61), -2);
            Check.same("62: far more", x.row(width, width, Integer.MAX_VALUE), -2);
            Check.same("62: none", x.row(width, width, 0), 0);
            Check.same("62: not one", x.write(width, 0, 1), -7);
            Check.same("62: a row all the same", x.count(11), width + 1);
        }
    }

    private static void rowInPlaceOfAnother() {
        BellMoney x = Tell.town(HEAD + "tower holds 99;" + "bell 1 tin 0 note 0 in 0;".repeat(2));
        Tell.plan(x, 0, 19, 1, 19, 1);
        x.row(0, 0, 4);
        Check.same("62: all 0: bell 0, once", x.plan(0, 4), 1);
        x.write(0, 1, 1);
        Check.same("62: bells 1 and 0", x.plan(0, 4), 0);
        x.row(0, 2, 2);
        Check.same("62: another width and size", x.write(0, 2, 1), -7);
        x.row(0, 2, 4);
        Check.same("62: all 0, behind the shorter one too", x.plan(0, 4), 1);
    }

    private static void rowRefusedStays() {
        BellMoney x = Tell.town(HEAD + "tower holds 99;" + "bell 1 tin 0 note 0 in 0;".repeat(2));
        Tell.plan(x, 0, 5, 1, 7, 1);
        String before = Seen.all(x);
        int[] below = {-1, -60, Integer.MIN_VALUE};
        for (int n : below) {
            Check.same("62: n " + n, x.row(0, 3, n), -3);
            Check.yes("62: the slot stays", Seen.all(x).equals(before));
        }
        Check.same("62: above 60", x.row(0, 3, 61), -2);
        Check.same("62: no such width", x.row(0, 4, 4), -2);
        Check.yes("62: the slot stays", Seen.all(x).equals(before));
        Check.same("62: its width, too", x.row(1, 0, 4) + x.paste(0, 0, 1, 0, 4), 0);
        Check.same("62: one with nothing has nothing yet", x.row(2, 0, -1), -3);
        Check.same("62: one with nothing has nothing yet", x.write(2, 0, 0), -6);
    }

    private static void rowNoneSuchFirst() {
        BellMoney x = new BellMoney();
        Check.same("62: no slot, n below 0", x.row(4, 0, -1), -2);
        Check.same("62: no width, n below 0", x.row(0, 4, -1), -2);
    }

    private static void writePlaces() {
        BellMoney x = new BellMoney();
        for (int slot = 0; slot < 4; slot++) {
            x.row(slot, slot, 3);
            Check.same("63: the first", x.write(slot, 0, Long.MAX_VALUE), 0);
            Check.same("63: the last", x.write(slot, 2, Long.MIN_VALUE), 0);
            Check.same("63: behind it", x.write(slot, 3, 0), -7);
            for (int far : FAR) {
                Check.same("63: number " + far, x.write(slot, far, 0), -7);
            }
        }
    }

    private static void writeRefused() {
        BellMoney x = new BellMoney();
        Check.same("63: a fifth", x.write(4, 0, 0), -2);
        for (int far : FAR) {
            Check.same("63: slot " + far, x.write(far, 0, 0), -2);
        }
        for (int slot = 0; slot < 4; slot++) {
            Check.same("63: it has nothing", x.write(slot, 0, 0), -6);
            Check.same("63: it has nothing, ahead of no number", x.write(slot, -1, 0), -6);
        }
    }

    /** The number as a plan shows it: bell 1 or none such. */
    private static long planned(BellMoney x, int width, long v) {
        x.row(0, width, 2);
        x.write(0, 1, v);
        return x.plan(0, 4);
    }

    private static void writeCut() {
        BellMoney x = Tell.town(HEAD + "tower holds 99;" + "bell 1 tin 0 note 0 in 0;".repeat(2));
        long[] span = {1L << 8, 1L << 16, 1L << 32};
        for (int width = 0; width < 3; width++) {
            Check.same("63: 1", planned(x, width, 1), 0);
            Check.same("63: the span is cut", planned(x, width, span[width]), 0);
            Check.same("63: one more", planned(x, width, span[width] + 1), 0);
            Check.same("63: two more", planned(x, width, span[width] + 2), -2);
            Check.same("63: one less", planned(x, width, span[width] - 1), -2);
            Check.same("63: half of it", planned(x, width, span[width] / 2), -2);
            Check.same("63: -1", planned(x, width, -1), -2);
            Check.same("63: below 0, cut to 1", planned(x, width, 1 - span[width]), 0);
            Check.same("63: the least of all is 0", planned(x, width, Long.MIN_VALUE), 0);
            Check.same("63: the most of all is not", planned(x, width, Long.MAX_VALUE), -2);
        }
        for (int bit = 1; bit < 64; bit++) {
            Check.same("63: eight bytes are not cut, bit " + bit, planned(x, 3, 1L << bit), -2);
        }
        Check.same("63: 1", planned(x, 3, 1), 0);
    }

    private static void pasteSlots() {
        BellMoney x = new BellMoney();
        for (int slot = 0; slot < 4; slot++) {
            x.row(slot, 0, 2);
        }
        Check.same("64: from the first to the last", x.paste(0, 0, 3, 0, 2), 0);
        Check.same("64: from the last to the first", x.paste(3, 0, 0, 0, 2), 0);
        Check.same("64: to its own", x.paste(2, 0, 2, 1, 1), 0);
        Check.same("64: a fifth", x.paste(4, 0, 0, 0, 1), -2);
        Check.same("64: to a fifth", x.paste(0, 0, 4, 0, 1), -2);
        for (int far : FAR) {
            Check.same("64: slot " + far, x.paste(far, 0, 0, 0, 1), -2);
            Check.same("64: to slot " + far, x.paste(0, 0, far, 0, 1), -2);
        }
    }

    private static void pasteNothing() {
        BellMoney x = new BellMoney();
        x.row(1, 0, 2);
        Check.same("64: one has nothing", x.paste(0, 0, 1, 0, 1), -6);
        Check.same("64: the other has nothing", x.paste(1, 0, 0, 0, 1), -6);
        Check.same("64: both", x.paste(0, 0, 2, 0, 1), -6);
        Check.same("64: one and the same", x.paste(0, 0, 0, 0, 0), -6);
    }

    private static void pasteWidths() {
        BellMoney x = new BellMoney();
        for (int slot = 0; slot < 4; slot++) {
            x.row(slot, slot, 2);
        }
        for (int slot = 0; slot < 4; slot++) {
            for (int to = 0; to < 4; to++) {
                Check.same("64: " + slot + " to " + to, x.paste(slot, 0, to, 0, 1), slot == to ? 0 : -8);
            }
        }
        Check.same("64: not even none", x.paste(0, 0, 1, 0, 0), -8);
    }

    private static void pasteBeyond() {
        BellMoney x = Tell.town(HEAD + "tower holds 99;" + "bell 1 tin 0 note 0 in 0;".repeat(3));
        Tell.plan(x, 0, 0, 1, 0, 2);
        Tell.plan(x, 1, 3, 0, 3, 0, 3, 0);
        String before = Seen.all(x);
        int[][] wrong = {{0, 0, 5}, {1, 0, 4}, {4, 0, 1}, {0, 3, 4}, {0, 5, 2}, {0, 6, 1}, {-1, 0, 1}, {0, -1, 1}, {0, 0, -1},
            {-1, 0, 0}, {0, -1, 0}, {5, 0, -1}, {Integer.MAX_VALUE, 0, 1}, {0, Integer.MAX_VALUE, 1},
            {0, 0, Integer.MAX_VALUE}, {1, 1, Integer.MAX_VALUE}, {Integer.MAX_VALUE, Integer.MAX_VALUE, Integer.MAX_VALUE},
            {Integer.MIN_VALUE, 0, 1}, {0, Integer.MIN_VALUE, 1}, {0, 0, Integer.MIN_VALUE}, {-1, -1, 2}};
        for (int[] row : wrong) {
            Check.same("64: " + row[0] + " to " + row[1] + ", " + row[2], x.paste(0, row[0], 1, row[1], row[2]), -7);
            Check.yes("64: nothing happens", Seen.all(x).equals(before));
        }
        Check.same("64: all of them", x.paste(0, 0, 1, 2, 4), 0);
        Check.same("64: 3 0, 0 1, 0 2: all are melted", x.plan(1, 4), 0);
    }

    private static void pasteNone() {
        BellMoney x = new BellMoney();
        x.row(0, 0, 2);
        x.row(1, 0, 0);
        Check.same("64: none of some", x.paste(0, 0, 1, 0, 0), 0);
        Check.same("64: none at the end", x.paste(0, 2, 0, 2, 0), 0);
        Check.same("64: none of none", x.paste(1, 0, 1, 0, 0), 0);
        Check.same("64: one to none", x.paste(0, 0, 1, 0, 1), -7);
        Check.same("64: one of none", x.paste(1, 0, 0, 0, 1), -7);
        Check.same("64: a place beyond, though none come", x.paste(0, 3, 0, 0, 0), -7);
        Check.same("64: a place beyond, though none come", x.paste(0, 0, 0, 3, 0), -7);
    }

    private static void pasteAsTheyWere() {
        BellMoney x = Tell.town(HEAD + "tower holds 99;" + "bell 1 tin 0 note 0 in 0;".repeat(8));
        int[] up = {0, 1, 0, 2, 0, 3, 0, 4, 0, 0};
        Tell.plan(x, 0, up);
        Check.same("64: up over itself", x.paste(0, 0, 0, 2, 8), 0);
        // 0 1, 0 1, 0 2, 0 3, 0 4: one of five is not melted
        Check.same("64: as they were", x.plan(0, 4), 1);
        Tell.plan(x, 0, up);
        Check.same("64: down over itself", x.paste(0, 2, 0, 0, 8), 0);
        // 0 2, 0 3, 0 4, 0 0, 0 0
        Check.same("64: as they were", x.plan(0, 4), 1);
        Tell.plan(x, 0, up);
        Check.same("64: onto itself", x.paste(0, 0, 0, 0, 10), 0);
        Check.same("64: as they were", x.plan(0, 4), 0);
        x.row(1, 0, 60);
        Check.same("64: to the last", x.paste(0, 0, 1, 50, 10), 0);
        // 25 times 0 0, then 1, 2, 3, 4 and 0 again
        Check.same("64: 30 steps, five are melted", x.plan(1, 4), 25);
        x.row(2, 3, 2);
        x.row(3, 3, 2);
        x.write(2, 1, 1L << 40);
        Check.same("64: eight bytes", x.paste(2, 0, 3, 0, 2), 0);
        Check.same("64: all eight came", x.plan(3, 4), -2);
    }

    private static void pasteFirstOf() {
        BellMoney x = new BellMoney();
        x.row(0, 0, 2);
        x.row(1, 1, 2);
        Check.same("64: -2 ahead of -6", x.paste(2, 0, 4, 0, 1), -2);
        Check.same("64: -2 ahead of -7", x.paste(4, -1, 0, 0, 1), -2);
        Check.same("64: -6 ahead of -7", x.paste(0, -1, 2, 0, 1), -6);
        Check.same("64: -8 ahead of -7", x.paste(0, -1, 1, 0, 1), -8);
        Check.same("64: -8 ahead of -7", x.paste(0, 0, 1, 0, 3), -8);
    }

    private static void planNoneSuch() {
        BellMoney x = Tell.town(HEAD);
        x.row(0, 0, 0);
        for (int what = 0; what <= 5; what++) {
            Check.yes("23: what " + what, x.plan(0, what) != -2);
        }
        Check.same("23: what 6", x.plan(0, 6), -2);
        Check.same("23: a fifth", x.plan(4, 0), -2);
        for (int far : FAR) {
            Check.same("23: what " + far, x.plan(0, far), -2);
            Check.same("23: slot " + far, x.plan(far, 0), -2);
        }
        x.town();
        Check.same("23: no town", x.plan(0, 0), -2);
        Check.same("23: no town, and nothing", x.plan(1, 0), -2);
    }

    private static void planNumbers() {
        BellMoney x = Tell.town(LookEdgeTest.FULL);
        Tell.plan(x, 0, 0, 0, 19, 7);
        Check.same("23: the first and the last", x.plan(0, 4), 0);
        int[][] wrong = {{20, 0}, {-1, 0}, {0, 8}, {0, -1}, {0, 0, 20, 0}, {0, 0, 0, 8}, {127, 0}, {-128, 0}, {0, 127}};
        for (int[] row : wrong) {
            Tell.plan(x, 1, row);
            for (int what = 0; what <= 5; what++) {
                Check.same("23: none such", x.plan(1, what), -2);
            }
        }
        x.cast(1, 0, 0, 0);
        Tell.plan(x, 1, 0, 8);
        Check.same("23: a ninth", x.plan(1, 4), 0);
        x.undo();
        Check.same("23: no ninth", x.plan(1, 4), -2);
        x = Tell.town(HEAD);
        Tell.plan(x, 0, 0, 0);
        Check.same("23: a town without bells", x.plan(0, 0), -2);
    }

    private static void planTwoEach() {
        BellMoney x = Tell.town(LookEdgeTest.FULL);
        for (int size = 0; size <= 60; size++) {
            x.row(0, 3, size);
            Check.same("23: " + size + " numbers", x.plan(0, 4), size % 2 != 0 ? -2 : Math.max(0, size / 2 - 1));
        }
    }

    private static void planNothing() {
        BellMoney x = Tell.town(HEAD);
        for (int slot = 0; slot < 4; slot++) {
            Check.same("23: it has nothing", x.plan(slot, 0), -6);
            Check.same("23: no such what ahead of that", x.plan(slot, 6), -2);
        }
    }

    private static void planEmptyAndFull() {
        BellMoney x = Tell.town(LookTest.TOWN);
        x.row(0, 0, 0);
        Check.same("23: purse as without it", x.plan(0, 0) - x.plan(0, 2), x.rest(19));
        Check.same("23: trust as without it", x.plan(0, 1), x.trust(19));
        Check.same("23: none not melted", x.plan(0, 4), 0);
        Check.same("23: first not paid as without it", x.plan(0, 5), x.broke());
        x.row(0, 0, 60);
        for (int i = 0; i < 30; i++) {
            x.write(0, 2 * i + 1, 3);
        }
        Check.same("23: one of thirty", x.plan(0, 4), 29);
        x.write(0, 59, 0);
        Check.same("23: and the last of them", x.plan(0, 4), 28);
    }

    private static void planInOrder() {
        String text = LookEdgeTest.bells("town coin 1 purse 0 tax 0 trust 9 frost 0;", 10, 20, 30) + "after 0 1;least 1;";
        BellMoney x = Tell.town(text);
        Tell.plan(x, 0, 4, 0, 4, 1);
        Check.same("23: 0 stands ahead of 1 and may not be", x.plan(0, 4), 1);
        Check.same("23: 1 alone", x.plan(0, 0), 20);
        Tell.plan(x, 0, 4, 1, 4, 0);
        Check.same("23: both", x.plan(0, 4), 0);
        Check.same("23: both", x.plan(0, 0), 30);
        Tell.plan(x, 0, 5, 0, 4, 1);
        Check.same("23: an earlier year comes first", x.plan(0, 4), 0);
        Tell.plan(x, 0, 4, 1, 4, 0, 4, 2);
        Check.same("23: the least hang", x.plan(0, 4), 1);
        Tell.plan(x, 0, 4, 1, 4, 1, 5, 1);
        Check.same("23: once alone", x.plan(0, 4), 2);
        Tell.plan(x, 0, 4, 2, 5, 1, 6, 0);
        Check.same("23: two, then the least hang", x.plan(0, 0), 50);
    }

    private static void planYears() {
        // melted ahead of the year's passing: what is due in it can be paid
        String text = LookEdgeTest.bells("town coin 1 purse 0 tax 0 trust 9 frost 0;", 10, 20) + "due 10 in 7;due 10 in 19;";
        BellMoney x = Tell.town(text);
        Tell.plan(x, 0, 7, 0, 19, 1);
        Check.same("23: all is paid", x.plan(0, 5), -1);
        Check.same("23: purse", x.plan(0, 0), 30 - 12);
        Check.same("23: no debt", x.plan(0, 2), 0);
        Tell.plan(x, 0, 8, 0, 19, 1);
        Check.same("23: a year too late", x.plan(0, 5), 7);
        Tell.plan(x, 0, 0, 0, 0, 1);
        Check.same("23: at once", x.plan(0, 5), -1);
        Tell.plan(x, 0, 7, 0);
        Check.same("23: 4 are left of 10, and 6 are asked in year 19", x.plan(0, 5), 19);
        Check.same("23: purse", x.plan(0, 0), 4);
        Check.same("23: two times 6", x.plan(0, 2), 12);
    }

    private static void planPassedYears() {
        BellMoney x = Tell.town(LookEdgeTest.bells("town coin 1 purse 0 tax 1 trust 9 frost 0;", 10, 20, 30));
        for (int year = 0; year < 5; year++) {
            x.passes();
        }
        Tell.plan(x, 0, 4, 0, 5, 1, 0, 2);
        Check.same("23: years that have passed", x.plan(0, 4), 2);
        Check.same("23: the one now", x.plan(0, 0), 20 + 20);
        for (int year = 5; year < 20; year++) {
            x.passes();
        }
        Tell.plan(x, 0, 19, 0, 19, 1);
        Check.same("23: all have passed", x.plan(0, 4), 2);
        Check.same("23: purse now", x.plan(0, 0), 20);
        Check.same("23: trust now", x.plan(0, 1), 9);
        Check.same("23: debt now", x.plan(0, 2), 0);
        Check.same("23: no year", x.plan(0, 3), -1);
        Check.same("23: no year", x.plan(0, 5), -1);
        Tell.plan(x, 0, 20, 0);
        Check.same("23: no such year, in year 20 too", x.plan(0, 4), -2);
    }

    private static void planFirstMissed() {
        BellMoney x = Tell.town(LookEdgeTest.bells(HEAD, 10, 20) + "ward 0;peal 0;");
        x.row(0, 0, 0);
        Check.same("23: none", x.plan(0, 3), -1);
        Tell.plan(x, 0, 6, 1);
        Check.same("23: none of the peal", x.plan(0, 3), -1);
        Tell.plan(x, 0, 6, 0);
        Check.same("23: in that year", x.plan(0, 3), 6);
        Tell.plan(x, 0, 19, 0);
        Check.same("23: in the last", x.plan(0, 3), 19);
        Tell.plan(x, 0, 0, 0);
        Check.same("23: in the first", x.plan(0, 3), 0);
        x.passes();
        x.cracks(0);
        x.passes();
        x.row(0, 0, 0);
        Check.same("23: from now on", x.plan(0, 3), 2);
    }

    private static void planFirstUnpaid() {
        BellMoney x = Tell.town("town coin 1 purse 0 tax 0 trust 5 frost 0;tower holds 9;bell 9 tin 0 note 0 in 0;due 9 in 3;");
        x.row(0, 0, 0);
        Check.same("23: year 3", x.plan(0, 5), 3);
        x.passes();
        x.passes();
        x.passes();
        Check.same("23: year 3", x.plan(0, 5), 3);
        x.passes();
        Check.same("23: debt, from now on", x.plan(0, 5), 4);
        Tell.plan(x, 0, 4, 0);
        // 6 were asked at a trust of 8, and not paid: 12 of debt, 8 by its price, and the bell gives 9
        Check.same("23: two times 6", x.now(4), 12);
        Check.same("23: paid by the bell", x.plan(0, 5), -1);
    }

    private static void planChangesNothing() {
        BellMoney x = Tell.town(LookTest.TOWN);
        Tell.plan(x, 0, 0, 0, 1, 3);
        String before = Seen.all(x);
        for (int what = 0; what <= 5; what++) {
            x.plan(0, what);
        }
        Check.yes("23: nothing is done", Seen.all(x).equals(before));
    }
}
