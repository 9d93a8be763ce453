/** Promises 1 to 5: a new object, feed, end, town, fault. */
public final class TapeTest {
    private static final String HEAD = "town coin 10 purse 100 tax 20 trust 5 frost 30;";

    public static void main(String[] args) {
        newObject();
        tape();
        towns();
        signs();
        heads();
        numbers();
        tooMany();
        struck();
        stays();
        Check.end();
    }

    private static void newObject() {
        BellMoney x = new BellMoney();
        Check.same("NONE", BellMoney.NONE, -1);
        for (int what = 0; what <= 11; what++) {
            Check.same("count of nothing", x.count(what), 0);
        }
        Check.same("fault(0) ahead of any", x.fault(0), 0);
        Check.same("fault(1) ahead of any", x.fault(1), -1);
        Check.same("fault(2)", x.fault(2), -1);
        Check.same("fault(-1)", x.fault(-1), -1);
        Check.same("asked()", x.asked(), -2);
        Check.same("passes()", x.passes(), -2);
        Check.same("undo()", x.undo(), -2);
        Check.same("anew()", x.anew(), -2);
        Check.same("tax(1)", x.tax(1), -2);
        Check.same("now(0)", x.now(0), -2);
        Check.same("may()", x.may(), -2);
        Check.same("back(0)", x.back(0), -6);
    }

    private static void tape() {
        BellMoney x = new BellMoney();
        Check.same("end(0)", x.end(0), 0);
        Check.same("end(1)", x.end(1), -1);
        for (int i = 1; i <= 70; i++) {
            Check.same("feed", x.feed(0, 0, 0, 0, 0), 20 * i);
        }
        Check.same("feed beyond", x.feed(0, 0, 0, 0, 0), -1);
        Check.same("bytes", x.count(10), 1400);
        Check.same("end(1401)", x.end(1401), -1);
        Check.same("end(-1)", x.end(-1), -1);
        Check.same("bytes yet", x.count(10), 1400);
        Check.same("end(1381)", x.end(1381), 1381);
        Check.same("feed one too many", x.feed(0, 0, 0, 0, 0), -1);
        Check.same("bytes stay", x.count(10), 1381);
        Check.same("end(1380)", x.end(1380), 1380);
        Check.same("feed the last", x.feed(0, 0, 0, 0, 0), 1400);
    }

    private static void towns() {
        BellMoney x = new BellMoney();
        Check.same("one line", Tell.town(x, HEAD), 1);
        Check.same("tape empty then", x.count(10), 0);
        Check.same("lines", x.count(9), 1);
        Check.same("fault(0)", x.fault(0), 0);
        Check.same("fault(1)", x.fault(1), -1);
        Check.same("passes", x.passes(), 1);
        Check.same("another town", Tell.town(x, HEAD + "\n tower holds 7 ;\n\nbell 7 tin 1 note 2 in 0 ;"), 3);
        Check.same("nothing done", x.now(0), 0);
        Check.same("no acts", x.count(8), 0);
        Check.same("no text", x.town(), 0);
        Check.same("no town", x.now(0), -2);
        Check.same("no lines", x.count(9), 0);
        Check.same("blanks alone", Tell.town(x, " \n  \n"), 0);
        Check.same("tape empty then", x.count(10), 0);
        Check.same("no blanks at all", Tell.town(x, "town coin10purse20tax30trust4frost5;tower holds6;ward0;peal 1;"), 4);
        Check.same("coin", x.count(4), 10);
        Check.same("leading zeros", Tell.town(x, "town coin 0000000000000000010 purse 0 tax 0 trust 0 frost 0;"), 1);
        Check.same("coin", x.count(4), 10);
        StringBuilder many = new StringBuilder(HEAD);
        while (many.length() + 6 <= 1400) {
            many.append("peal1;");
        }
        Check.same("as many lines as there is room for", Tell.town(x, many.toString()), 1 + (1400 - 47) / 6);
    }

    private static void fault(String text, int code, int place) {
        BellMoney x = new BellMoney();
        Check.same("town " + text, Tell.town(x, text), -4);
        Check.same("fault of " + text, x.fault(0), code);
        Check.same("place in " + text, x.fault(1), place);
    }

    /** Of two texts, the second has the fault at the first one's end. */
    private static void behind(String sound, String rest, int code) {
        fault(sound + rest, code, sound.length());
    }

    private static void signs() {
        behind(HEAD, "Tower holds 5;", 1);
        behind(HEAD, "#", 1);
        behind(HEAD, "\t", 1);
        behind(HEAD, "\r\n", 1);
        behind(HEAD, "\u0000", 1);
        behind(HEAD, "\u00e9", 1);
        behind(HEAD, "-5", 1);
        behind(HEAD, ";", 1);
        behind(HEAD, "5;", 1);
        behind(HEAD, "towers holds 5;", 1);
        behind(HEAD, "towe", 1);
        behind(HEAD, "towerz holds 5;", 1);
        behind(HEAD, "towera holds 5;", 1);
        words();
        behind(HEAD + "tower holds ", "-5;", 1);
        behind(HEAD + "tower holds 5", ".", 1);
        behind(HEAD + "tower holds 5", "", 1);
        behind(HEAD + "tower holds 5 \n ", "", 1);
        behind(HEAD + "tower ", "5;", 1);
        behind(HEAD + "tower holds 5 ", "6;", 1);
        behind(HEAD + "peal ", ";", 1);
        behind(HEAD + "peal 1 ", "due;", 1);
        behind(HEAD + "tower holds 5;bell 5 tin 1 note 1 in 0 ", "cracke;", 1);
        behind(HEAD + "tower holds 5;bell 5 tin 1 note 1 in 0 cracked ", "cracked;", 1);
        behind(HEAD + "tower holds 5;ward ", ";", 1);
    }

    /** Each word with one of its letters another one. */
    private static void words() {
        String text = HEAD + "tower holds 9;bell 5 tin 1 note 1 in 0 cracked;bell 4 tin 1 note 1 in 0;ward 0;peal 1;"
                + "due 1 in 1;keeps 0;least 1;after 0 1;";
        int word = 0;
        for (int i = 0; i < text.length(); i++) {
            boolean letter = text.charAt(i) >= 'a' && text.charAt(i) <= 'z';
            word = letter ? word : i + 1;
            if (letter) {
                fault(text.substring(0, i) + "z" + text.substring(i + 1), 1, word);
            }
        }
    }

    private static void heads() {
        fault("tower holds 5;", 1, 0);
        fault("  peal 1;", 1, 2);
        fault(";", 1, 0);
        fault("town", 1, 4);
        fault("town;", 1, 4);
        fault("town coin 101 purse x", 2, 10);
        behind(HEAD, HEAD, 1);
        behind(HEAD + "peal 1;", "town", 1);
        behind("town coin ", "0 purse 100 tax 20 trust 5 frost 30;", 2);
        behind("town coin 100 purse ", "100001 tax 20 trust 5 frost 30;", 2);
        behind("town coin 100 purse 100000 tax ", "100001 trust 5 frost 30;", 2);
        behind("town coin 100 purse 100000 tax 100000 trust ", "10 frost 30;", 2);
        behind("town coin 100 purse 100000 tax 100000 trust 9 frost ", "101;", 2);
        behind("town coin ", "99999999999999999999999999 purse 1;", 2);
        behind("town coin ", "4294967297 purse 1;", 2);
        BellMoney x = new BellMoney();
        Check.same("the most", Tell.town(x, "town coin 100 purse 100000 tax 100000 trust 9 frost 100;"), 1);
        Check.same("the least", Tell.town(x, "town coin 1 purse 0 tax 0 trust 0 frost 0;"), 1);
    }

    private static void numbers() {
        String tower = HEAD + "tower holds 100;";
        String bell = tower + "bell 60 tin 40 note 11 in 0;";
        behind(HEAD + "tower holds ", "0;", 2);
        behind(HEAD + "tower holds ", "100001;", 2);
        behind(tower + "bell ", "0 tin 1 note 1 in 0;", 2);
        behind(tower + "bell ", "10001 tin 1 note 1 in 0;", 2);
        behind(tower + "bell 60 tin ", "41 note 1 in 0;", 2);
        behind(tower + "bell 60 tin 40 note ", "12 in 0;", 2);
        behind(tower + "bell 60 tin 40 note 11 in ", "1;", 2);
        behind(HEAD + "bell 60 tin 40 note 11 in ", "0;tower holds 100;", 2);
        behind(tower + "bell 101 tin 40 note 11 in ", "0;", 2);
        behind(bell + "bell 41 tin 40 note 11 in ", "0;", 2);
        behind(HEAD + "tower holds 100;bell 60 tin 40 note 11 in 0 cracked;bell 41 tin 0 note 0 in ", "0;", 2);
        behind(tower + "ward ", "1;", 2);
        behind(tower + "ward 0 0 ", "2;", 2);
        behind(HEAD + "ward ", "0;", 2);
        behind(HEAD + "peal 0 11 ", "12;", 2);
        behind(HEAD + "due ", "0 in 1;", 2);
        behind(HEAD + "due ", "1000001 in 1;", 2);
        behind(HEAD + "due 1000000 in ", "20;", 2);
        behind(bell + "keeps ", "1;", 2);
        behind(HEAD + "keeps ", "0;", 2);
        behind(HEAD + "least ", "11;", 2);
        behind(bell + "after 0 ", "0;", 2);
        behind(bell + "after ", "1 1;", 2);
        behind(bell + "after 0 ", "1;", 2);
        BellMoney x = Tell.town(tower + "tower holds 200;bell 60 tin 40 note 11 in 1;");
        x.town();
        x.town();
        Check.same("another town's tower", Tell.town(x, tower + "bell 60 tin 40 note 11 in 1;"), -4);
        Check.same("another town's tower", Tell.town(x, tower + "bell 60 tin 40 note 11 in 1;"), -4);
        Check.same("the least there are", Tell.town(x, HEAD + "tower holds 1;bell 1 tin 0 note 0 in 0;due 1 in 0;"), 4);
        Check.same("all to the brim", Tell.town(x, bell + "bell 40 tin 0 note 0 in 0 cracked;ward 0;peal 0 11;"
                + "due 1000000 in 19;keeps 1;least 10;after 0 1;"), 10);
    }

    private static void tooMany() {
        String four = HEAD + "tower holds 9;tower holds 9;tower holds 9;tower holds 9;";
        behind(four, "tower x", 3);
        behind(four + "ward 0;ward 1;ward 2;ward 3;", "ward 9;", 3);
        String bells = four;
        for (int i = 0; i < 8; i++) {
            bells += "bell 1 tin 1 note 1 in 0;";
        }
        behind(bells, "bell", 3);
        String dues = HEAD;
        for (int i = 0; i < 12; i++) {
            dues += "due 1 in 1;";
        }
        behind(dues, "due", 3);
        Check.same("eight bells", Tell.town(bells).count(0), 8);
        Check.same("twelve dues", Tell.town(dues).count(3), 12);
    }

    private static void struck() {
        String text = HEAD + "tower holds 100;bell 10 tin 1 note 1 in 0;bell 10 tin 1 note 1 in 0;bell 10 tin 1 note 1 in 0;";
        BellMoney x = Tell.town(text + "peal 1 2 3 1;peal 4 4 5;");
        Check.same("a later peal strikes", x.count(7), 2);
        x = Tell.town(text + "least 3;least 1;");
        Check.same("a later least strikes", x.why(0), 0);
        x = Tell.town(text + "least 1;least 3;");
        Check.same("a later least strikes", x.why(0), 3);
        x = Tell.town(text + "after 0 1;after 0 2;");
        x.melt(1);
        Check.same("a later after strikes", x.why(0), 4);
        x.melt(2);
        Check.same("a later after strikes", x.why(0), 0);
        x = Tell.town(text + "after 0 1;after 2 1;keeps 0;keeps 0;");
        Check.same("afters of others stay", x.why(2), 4);
        Check.same("kept twice", x.why(0), 2);
    }

    private static void stays() {
        BellMoney x = Tell.town(HEAD);
        x.passes();
        Tell.put(x, HEAD + "due 0 in 1;");
        Check.same("a fault", x.town(), -4);
        Check.same("the town stays", x.now(0), 1);
        Check.same("acts stay", x.count(8), 1);
        Check.same("the tape stays", x.count(10), 58);
        Tell.put(x, "town coin 1 purse 1 tax 1 trust 1 frost 101;");
        Check.same("a fault in the head", x.town(), -4);
        Check.same("the town stays", x.now(0), 1);
        Check.same("the town stays", x.count(4), 10);
        Check.same("the town stays", x.count(5), 20);
        Tell.put(x, HEAD + "due 0 in 1;");
        Check.same("a fault again", x.town(), -4);
        Check.same("its place", x.fault(1), 51);
        Check.same("cut ahead of it", x.end(47), 47);
        Check.same("sound", x.town(), 1);
        Check.same("no fault", x.fault(0), 0);
        Check.same("no place", x.fault(1), -1);
        Check.same("nothing done", x.now(0), 0);
    }
}
