/** Promises 1 to 5, sentence by sentence: a new object, a full tape, a cut one, towns in place of others, faults. */
public final class TapeEdgeTest {
    private static final String HEAD = "town coin 10 purse 100 tax 20 trust 5 frost 30;";
    private static final int BLANKS = 0x20202020;
    private static final long NO_REST = -4000000000000000000L;

    public static void main(String[] args) {
        newObjectHasNoTown();
        newObjectHasNothingElse();
        feedCounts();
        feedHighestFirst();
        feedTakesAnyByte();
        feedFull();
        feedRefusedBringsNone();
        endFirstBytesAlone();
        endWhereverItIs();
        endOfAll();
        endRefused();
        townEmptiesTheTape();
        townInPlaceOfAnother();
        townNothingDone();
        townBehindMany();
        townOfNoLines();
        townFaultAllStays();
        townFaultTapeStays();
        faultOfTheLatest();
        faultAheadOfAny();
        faultOtherWhat();
        Check.end();
    }

    static void noTown(BellMoney x) {
        long[] none = {x.bell(0, 0), x.tower(0, 0), x.ward(0, 0), x.due(0, 0), x.coins(0), x.over(0), x.why(0), x.may(),
            x.asked(), x.melt(0), x.cast(1, 0, 0, 0), x.passes(), x.cracks(0), x.undo(), x.anew(), x.enough(), x.melted(),
            x.ounces(), x.lightest(), x.loud(), x.loudly(), x.lawful(0), x.silent(), x.silence(), x.guarded(),
            x.alloy(1, 0), x.casts(1, 0, 40), x.castOf(1, 0, 40), x.tested(0, -1), x.sure(0, -1, 0), x.few(0, -1),
            x.hold(), x.held(), x.fills(0), x.filled(0), x.pays(0), x.paid(0), x.sundays(), x.broke(), x.hears(0),
            x.clear(), x.trust(0), x.rings(), x.note(0), x.changes(), x.drawn(0, 0), x.winters(0, 1), x.raise(0, 1),
            x.tax(0)};
        for (int i = 0; i < none.length; i++) {
            Check.same("without a town, answer " + i, none[i], -2);
        }
        for (int what = -1; what <= 7; what++) {
            Check.same("without a town, now " + what, x.now(what), -2);
        }
        Check.same("without a town, rest", x.rest(0), NO_REST);
        for (int what = 0; what <= 9; what++) {
            Check.same("without a town, count " + what, x.count(what), 0);
        }
    }

    private static void newObjectHasNoTown() {
        noTown(new BellMoney());
    }

    private static void newObjectHasNothingElse() {
        BellMoney x = new BellMoney();
        Check.same("no byte", x.count(10), 0);
        Check.same("no row", x.count(11), 0);
        for (int slot = 0; slot < 4; slot++) {
            Check.same("slot " + slot + " has nothing", x.write(slot, 0, 0), -6);
        }
        for (int k = 0; k < 3; k++) {
            Check.same("image " + k + " has nothing", x.back(k), -6);
        }
        Check.same("price needs no town", x.price(1000000, 0), 1500000);
    }

    private static void feedCounts() {
        BellMoney x = new BellMoney();
        Check.same("twenty", x.feed(1, 2, 3, 4, 5), 20);
        Check.same("forty", x.feed(1, 2, 3, 4, 5), 40);
        Check.same("forty are there", x.count(10), 40);
        x.end(7);
        Check.same("behind the seventh", x.feed(1, 2, 3, 4, 5), 27);
    }

    private static void feedHighestFirst() {
        // twenty letters, one behind the other, then the place of the fault shows where each came to stand
        for (int place = 0; place < 20; place++) {
            int[] given = new int[5];
            for (int i = 0; i < 20; i++) {
                given[i / 4] |= (i == place ? '#' : ' ') << 24 - i % 4 * 8;
            }
            BellMoney x = new BellMoney();
            x.feed(given[0], given[1], given[2], given[3], given[4]);
            Check.same("a fault", x.town(), -4);
            Check.same("byte " + place, x.fault(1), place);
        }
    }

    private static void feedTakesAnyByte() {
        int[] given = {0, -1, Integer.MIN_VALUE, Integer.MAX_VALUE};
        for (int four : given) {
            BellMoney x = new BellMoney();
            Check.same("twenty come", x.feed(four, four, four, four, four), 20);
            Check.same("no token", x.town(), -4);
            Check.same("at once", x.fault(1), 0);
        }
        // a byte of 160 is no blank, though it is one but for its highest bit
        BellMoney x = new BellMoney();
        x.feed(BLANKS, BLANKS, BLANKS, 0x202020a0, BLANKS);
        Check.same("no token", x.town(), -4);
        Check.same("its place", x.fault(1), 15);
    }

    private static void feedFull() {
        BellMoney x = new BellMoney();
        for (int i = 1; i < 70; i++) {
            x.feed(BLANKS, BLANKS, BLANKS, BLANKS, BLANKS);
        }
        Check.same("1380", x.count(10), 1380);
        Check.same("the last twenty", x.feed(BLANKS, BLANKS, BLANKS, BLANKS, BLANKS), 1400);
        Check.same("none beyond", x.feed(BLANKS, BLANKS, BLANKS, BLANKS, BLANKS), -1);
        Check.same("blanks alone", x.town(), 0);
        Check.same("room again", x.feed(BLANKS, BLANKS, BLANKS, BLANKS, BLANKS), 20);
    }

    private static void feedRefusedBringsNone() {
        for (int size = 1381; size <= 1400; size++) {
            BellMoney x = new BellMoney();
            Tell.put(x, " ".repeat(size));
            Check.same("would be " + (size + 20), x.feed(-1, -1, -1, -1, -1), -1);
            Check.same("none came", x.count(10), size);
            Check.same("nothing but blanks", x.town(), 0);
        }
        BellMoney x = new BellMoney();
        Tell.put(x, " ".repeat(1380));
        Check.same("1400", x.feed(-1, -1, -1, -1, -1), 1400);
    }

    private static void endFirstBytesAlone() {
        BellMoney x = new BellMoney();
        Tell.put(x, HEAD + "peal 1;#");
        Check.same("cut", x.end(HEAD.length()), HEAD.length());
        Check.same("so many", x.count(10), HEAD.length());
        Check.same("the others are gone", x.end(HEAD.length() + 1), -1);
        x.feed(BLANKS, BLANKS, BLANKS, BLANKS, BLANKS);
        Check.same("one line", x.town(), 1);
    }

    /** What stood behind the end is not read on, be it a letter, a digit or a sign. */
    private static void endWhereverItIs() {
        String text = HEAD + "tower holds 99;bell 12 tin 10 note 11 in 0 cracked;peal 10 11;due 55 in 11;";
        for (int size = 0; size <= text.length(); size++) {
            BellMoney x = new BellMoney();
            Tell.put(x, text);
            x.end(size);
            BellMoney alone = new BellMoney();
            Tell.put(alone, text.substring(0, size));
            Check.same("cut at " + size, x.town(), alone.town());
            Check.same("fault, cut at " + size, x.fault(0), alone.fault(0));
            Check.same("place, cut at " + size, x.fault(1), alone.fault(1));
        }
    }

    private static void endOfAll() {
        BellMoney x = new BellMoney();
        Check.same("0 of 0", x.end(0), 0);
        x.feed(-1, -1, -1, -1, -1);
        Check.same("20 of 20", x.end(20), 20);
        Check.same("as many yet", x.count(10), 20);
        Check.same("19 of 20", x.end(19), 19);
        Check.same("0 of 19", x.end(0), 0);
        Check.same("none", x.count(10), 0);
        Check.same("an empty text", x.town(), 0);
    }

    private static void endRefused() {
        BellMoney x = new BellMoney();
        Check.same("1 of 0", x.end(1), -1);
        Tell.put(x, HEAD);
        int[] wrong = {HEAD.length() + 1, 1400, 1401, Integer.MAX_VALUE, -1, -20, Integer.MIN_VALUE};
        for (int n : wrong) {
            Check.same("end(" + n + ")", x.end(n), -1);
            Check.same("nothing happens", x.count(10), HEAD.length());
        }
        Check.same("as it was", x.town(), 1);
    }

    private static void townEmptiesTheTape() {
        BellMoney x = Tell.town(HEAD);
        Check.same("empty then", x.count(10), 0);
        Check.same("empty then", x.end(1), -1);
        Check.same("from the first byte on", x.feed(0, 0, 0, 0, 0), 20);
        Check.same("blanks, too", Tell.town(x, "  "), 0);
        Check.same("empty then", x.count(10), 0);
    }

    private static void townInPlaceOfAnother() {
        BellMoney x = Tell.town(LookTest.TOWN);
        Check.same("another", Tell.town(x, "town coin 7 purse 8 tax 9 trust 1 frost 2;tower holds 3;"), 2);
        int[] counts = {0, 1, 0, 0, 7, 9, 2, 0, 0, 2};
        for (int what = 0; what <= 9; what++) {
            Check.same("count " + what, x.count(what), counts[what]);
        }
        Check.same("nothing of the other law", Tell.town(x, HEAD + "tower holds 9;"
                + "bell 1 tin 0 note 0 in 0;".repeat(4)), 6);
        Check.same("all may", x.may(), 15);
        Check.same("none cracked", x.bell(3, 5), 0);
        Check.same("no dues", x.asked(), 0);
        Check.same("no ward", x.hears(0), 0);
        Check.yes("as in a new object", Seen.town(x).equals(Seen.town(Tell.town(HEAD + "tower holds 9;"
                + "bell 1 tin 0 note 0 in 0;".repeat(4)))));
    }

    private static void townNothingDone() {
        BellMoney x = Tell.town(LookTest.TOWN);
        x.melt(0);
        x.cast(10, 0, 0, 0);
        x.cracks(4);
        x.passes();
        Tell.town(x, LookTest.TOWN);
        Check.yes("as told", Seen.town(x).equals(Seen.town(Tell.town(LookTest.TOWN))));
        Check.same("no act", x.count(8), 0);
        Check.same("none to take back", x.undo(), -5);
    }

    /** An object in which more than one town was told, and much was done in each. */
    private static BellMoney worn() {
        BellMoney x = new BellMoney();
        for (int i = 0; i < 3; i++) {
            Tell.town(x, LookEdgeTest.FULL.replace("coin 1 ", "coin 9 ") + "keeps 0;keeps 1;least 5;after 2 3;after 4 5;");
            x.melt(3);
            x.cast(77, 7, 7, 1);
            x.cracks(2);
            for (int year = 0; year < 20; year++) {
                x.passes();
            }
            Check.yes("debt and a heap", x.now(4) > 0 && x.now(2) > 0);
        }
        return x;
    }

    private static void townBehindMany() {
        String[] texts = {HEAD, LookTest.TOWN, HEAD + "tower holds 9;" + "bell 1 tin 0 note 0 in 0;".repeat(5), "",
            "town coin 1 purse 0 tax 0 trust 0 frost 0;tower holds 1;ward 0;peal 1;due 1 in 1;",
            HEAD + "tower holds 5;tower holds 5;bell 5 tin 0 note 0 in 0;bell 5 tin 0 note 1 in 1;ward 0 1;peal 0 1;"};
        for (String text : texts) {
            BellMoney x = worn();
            BellMoney fresh = new BellMoney();
            Check.same("as many lines", Tell.town(x, text), Tell.town(fresh, text));
            Check.yes("as in a new object: " + text, Seen.town(x).equals(Seen.town(fresh)));
            Check.same("nothing done", x.undo(), text.isEmpty() ? -2 : -5);
        }
        BellMoney x = worn();
        Check.same("another town's tower", Tell.town(x, HEAD + "tower holds 9;bell 1 tin 0 note 0 in 1;"), -4);
        Check.same("another town's bell", Tell.town(x, HEAD + "tower holds 9;bell 1 tin 0 note 0 in 0;keeps 1;"), -4);
        x = worn();
        Check.same("no line", Tell.town(x, " "), 0);
        noTown(x);
    }

    private static void townOfNoLines() {
        BellMoney x = Tell.town(LookTest.TOWN);
        x.passes();
        Check.same("no line", x.town(), 0);
        noTown(x);
        x = Tell.town(LookTest.TOWN);
        Check.same("blanks alone", Tell.town(x, " \n "), 0);
        noTown(x);
    }

    private static void townFaultAllStays() {
        BellMoney x = Tell.town(LookTest.TOWN);
        x.melt(0);
        x.cast(15, 3, 2, 1);
        x.image(1);
        x.passes();
        Tell.plan(x, 2, 5, 3, 6, 1);
        String[] texts = {"#", "town coin 0", "town coin 1 purse 2 tax 3 trust 4 frost 101;",
            "town coin 1 purse 2 tax 3 trust 4 frost 5;tower holds 8;tower holds 9;bell 1 tin 1 note 1 in 1;bell 0",
            "town coin 1 purse 2 tax 3 trust 4 frost 5;tower holds 8;ward 0;peal 1 2 3;due 5 in 6;least 10",
            HEAD + "tower holds 9;".repeat(5)};
        String before = Seen.town(x);
        long purse = x.plan(2, 0);
        for (String text : texts) {
            Check.same("a fault", Tell.town(x, text), -4);
            Check.yes("town and acts stay behind " + text, Seen.town(x).equals(before));
            Check.same("the tape stays behind " + text, x.count(10), text.length());
            Check.same("slots stay", x.plan(2, 0), purse);
            Check.same("one slot", x.count(11), 1);
        }
        Check.same("acts can be taken back", x.undo(), 2);
        Check.same("images stay", x.back(1), 0);
        Check.same("images stay", x.count(8), 2);
    }

    private static void townFaultTapeStays() {
        BellMoney x = new BellMoney();
        Check.same("a fault", Tell.town(x, HEAD + "peal 12;"), -4);
        Check.same("again the same", x.town(), -4);
        Check.same("its place", x.fault(1), HEAD.length() + 5);
        Check.same("cut ahead of it", x.end(HEAD.length()), HEAD.length());
        Check.same("a town", x.town(), 1);
    }

    private static void faultOfTheLatest() {
        BellMoney x = new BellMoney();
        Tell.town(x, "town coin 0");
        Check.same("out of bounds", x.fault(0), 2);
        Check.same("its place", x.fault(1), 10);
        x.end(0);
        x.feed(0, 0, 0, 0, 0);
        x.image(0);
        x.back(0);
        Check.same("not by feed, end, image, back", x.fault(0), 2);
        Check.same("not by feed, end, image, back", x.fault(1), 10);
        Tell.town(x, HEAD + "tower holds 9;".repeat(4) + "tower");
        Check.same("a fifth", x.fault(0), 3);
        Check.same("its place", x.fault(1), HEAD.length() + 56);
        Tell.town(x, "x");
        Check.same("no such word", x.fault(0), 1);
        Check.same("its place", x.fault(1), 0);
        Tell.town(x, HEAD);
        Check.same("0 without", x.fault(0), 0);
        Check.same("NONE without", x.fault(1), -1);
        Tell.town(x, "x");
        x.end(0);
        x.town();
        Check.same("0 without, no town", x.fault(0), 0);
        Check.same("NONE without, no town", x.fault(1), -1);
    }

    private static void faultAheadOfAny() {
        BellMoney x = new BellMoney();
        Tell.put(x, "town coin 0");
        Check.same("ahead of any, what 0", x.fault(0), 0);
        Check.same("ahead of any, what 1", x.fault(1), -1);
    }

    private static void faultOtherWhat() {
        BellMoney x = new BellMoney();
        int[] others = {-1, 2, 3, Integer.MIN_VALUE, Integer.MAX_VALUE};
        for (int what : others) {
            Check.same("fault(" + what + ") ahead of any", x.fault(what), -1);
        }
        Tell.town(x, "town coin 0");
        for (int what : others) {
            Check.same("fault(" + what + ")", x.fault(what), -1);
        }
    }
}
