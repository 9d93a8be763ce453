/** Term I: the text's bounds on both sides, tokens, faults and their places, how many there may be. */
public final class TextEdgeTest {
    private static final String HEAD = "town coin 10 purse 100 tax 20 trust 5 frost 30;";
    private static final String TOWERS = HEAD + "tower holds 100000;tower holds 100;";
    private static final String BELLS = TOWERS + "bell 50 tin 1 note 1 in 0;bell 60 tin 2 note 2 in 1;bell 70 tin 3 note 3 in 0;";

    public static void main(String[] args) {
        townLine();
        townIsTheFirst();
        towerLine();
        bellLine();
        towerToldAhead();
        towerHoldsItToo();
        wardLine();
        pealLine();
        dueLine();
        keepsLine();
        leastLine();
        afterLine();
        numberedAsTheyStand();
        emptyAndBlank();
        blanks();
        signsThatAreNone();
        longestTokens();
        longNumbers();
        firstByPlace();
        ofOnePlaceTheLeast();
        endOfText();
        wordsThatCanNotStand();
        fifthTower();
        ninthBell();
        fifthWard();
        thirteenthDue();
        Check.end();
    }

    /** A text without a fault. */
    private static BellMoney sound(String text) {
        BellMoney x = new BellMoney();
        int lines = 0;
        for (int i = 0; i < text.length(); i++) {
            lines += text.charAt(i) == ';' ? 1 : 0;
        }
        Check.same("lines of " + text, Tell.town(x, text), lines);
        Check.same("no fault in " + text, x.fault(0), 0);
        Check.same("no place in " + text, x.fault(1), -1);
        return x;
    }

    /** Of two texts one behind the other, a fault where the second begins. */
    private static void fault(int code, String ahead, String from) {
        BellMoney x = new BellMoney();
        Check.same("town " + ahead + from, Tell.town(x, ahead + from), -4);
        Check.same("fault of " + ahead + from, x.fault(0), code);
        Check.same("place in " + ahead + from, x.fault(1), ahead.length());
        Check.same("no town of " + ahead + from, x.count(9), 0);
    }

    /** A number between two texts: the least and the most are taken, those beside them are not. */
    private static void bounds(String ahead, int least, int most, String behind) {
        sound(ahead + least + behind);
        sound(ahead + most + behind);
        fault(2, ahead, most + 1 + behind);
        if (least > 0) {
            fault(2, ahead, least - 1 + behind);
        } else {
            // below 0 there is no number: its sign is no token
            fault(1, ahead, "-1" + behind);
        }
    }

    private static void townLine() {
        bounds("town coin ", 1, 100, " purse 0 tax 0 trust 0 frost 0;");
        bounds("town coin 1 purse ", 0, 100000, " tax 0 trust 0 frost 0;");
        bounds("town coin 1 purse 0 tax ", 0, 100000, " trust 0 frost 0;");
        bounds("town coin 1 purse 0 tax 0 trust ", 0, 9, " frost 0;");
        bounds("town coin 1 purse 0 tax 0 trust 0 frost ", 0, 100, ";");
        BellMoney x = sound("town coin 100 purse 100000 tax 99999 trust 9 frost 99;");
        Check.same("coin", x.count(4), 100);
        Check.same("purse", x.now(1), 100000);
        Check.same("tax", x.count(5), 99999);
        Check.same("trust", x.now(3), 9);
        Check.same("frost", x.count(6), 99);
        x = sound("town coin 1 purse 0 tax 0 trust 0 frost 0;");
        Check.same("coin", x.count(4), 1);
        Check.same("purse", x.now(1), 0);
        Check.same("tax", x.count(5), 0);
        Check.same("trust", x.now(3), 0);
        Check.same("frost", x.count(6), 0);
    }

    private static void townIsTheFirst() {
        String[] others = {"tower holds 5;", "bell 1 tin 0 note 0 in 0;", "ward 0;", "peal 1;", "due 1 in 1;", "keeps 0;",
            "least 1;", "after 0 1;"};
        for (String other : others) {
            fault(1, "", other + HEAD);
            fault(1, " \n", other);
        }
        fault(1, HEAD, HEAD);
        fault(1, HEAD + "peal 1;", "town");
        fault(1, "", ";" + HEAD);
        fault(1, "", "5;");
        fault(1, "", "towns coin 1");
        fault(1, "", "tow coin 1");
        fault(1, "", "down coin 1");
        fault(1, HEAD, "bower holds 5;");
        fault(1, HEAD, "towerz holds 5;");
        fault(1, HEAD, "z");
        fault(1, HEAD, "a");
    }

    private static void towerLine() {
        bounds(HEAD + "tower holds ", 1, 100000, ";");
        Check.same("holds the most", sound(HEAD + "tower holds 100000;").tower(0, 0), 100000);
        Check.same("holds the least", sound(HEAD + "tower holds 1;").tower(0, 0), 1);
    }

    private static void bellLine() {
        bounds(TOWERS + "bell ", 1, 10000, " tin 0 note 0 in 0;");
        bounds(TOWERS + "bell 1 tin ", 0, 40, " note 0 in 0;");
        bounds(TOWERS + "bell 1 tin 0 note ", 0, 11, " in 0;");
        bounds(TOWERS + "bell 1 tin 0 note 0 in ", 0, 1, ";");
        bounds(TOWERS + "bell 1 tin 0 note 0 in ", 0, 1, " cracked;");
        BellMoney x = sound(TOWERS + "bell 10000 tin 40 note 11 in 0 cracked;bell 1 tin 0 note 0 in 1;");
        int[][] due = {{10000, 40, 11, 0, 1, 1}, {1, 0, 0, 1, 1, 0}};
        for (int bell = 0; bell < 2; bell++) {
            for (int what = 0; what < 6; what++) {
                Check.same("told bell " + bell + " what " + what, x.bell(bell, what), due[bell][what]);
            }
        }
        x = sound(TOWERS + "bell 1 tin 0 note 0 in 0 cracked;bell 1 tin 0 note 0 in 0;bell 1 tin 0 note 0 in 0 cracked;");
        for (int bell = 0; bell < 3; bell++) {
            Check.same("each for itself", x.bell(bell, 5), bell == 1 ? 0 : 1);
        }
    }

    private static void towerToldAhead() {
        fault(2, HEAD + "bell 1 tin 0 note 0 in ", "0;");
        fault(2, HEAD + "bell 1 tin 0 note 0 in ", "0;tower holds 9;");
        fault(2, HEAD + "tower holds 9;bell 1 tin 0 note 0 in ", "1;tower holds 9;");
        sound(HEAD + "tower holds 9;tower holds 9;bell 1 tin 0 note 0 in 1;");
        sound(HEAD + "tower holds 9;tower holds 9;tower holds 9;tower holds 9;bell 1 tin 0 note 0 in 3;");
    }

    private static void towerHoldsItToo() {
        sound(HEAD + "tower holds 10;bell 10 tin 0 note 0 in 0;");
        fault(2, HEAD + "tower holds 10;bell 11 tin 0 note 0 in ", "0;");
        String six = HEAD + "tower holds 10;tower holds 9;bell 6 tin 0 note 0 in 0;";
        sound(six + "bell 4 tin 0 note 0 in 0;");
        fault(2, six + "bell 5 tin 0 note 0 in ", "0;");
        sound(six + "bell 5 tin 0 note 0 in 1;");
        sound(six + "bell 9 tin 0 note 0 in 1;");
        fault(2, six + "bell 10 tin 0 note 0 in ", "1;");
        String cracked = HEAD + "tower holds 10;bell 6 tin 0 note 0 in 0 cracked;";
        sound(cracked + "bell 4 tin 0 note 0 in 0 cracked;");
        fault(2, cracked + "bell 5 tin 0 note 0 in ", "0 cracked;");
        fault(2, six + "bell 4 tin 0 note 0 in 0;bell 1 tin 0 note 0 in ", "0;");
        String ten = HEAD + "tower holds 100000;";
        for (int i = 0; i < 8; i++) {
            ten += "bell 10000 tin 0 note 0 in 0;";
        }
        Check.same("eight of the heaviest", sound(ten).tower(0, 1), 80000);
    }

    private static void wardLine() {
        bounds(TOWERS + "ward ", 0, 1, ";");
        bounds(TOWERS + "ward 1 ", 0, 1, ";");
        fault(2, HEAD + "ward ", "0;");
        fault(2, HEAD + "ward ", "0;tower holds 9;");
        fault(1, TOWERS + "ward", ";");
        fault(1, TOWERS + "ward ", "in 0;");
        BellMoney x = sound(TOWERS + "ward 1 1 1;ward 1 0 1 0;ward 0;");
        Check.same("like ones count once", x.ward(0, 0), 2);
        Check.same("both", x.ward(1, 0), 3);
        Check.same("the first", x.ward(2, 0), 1);
        StringBuilder many = new StringBuilder(TOWERS + "ward");
        while (many.length() + 3 <= 1400) {
            many.append(" 1");
        }
        Check.same("as many as there is room for", sound(many.append(';').toString()).ward(0, 0), 2);
    }

    private static void pealLine() {
        bounds(HEAD + "peal ", 0, 11, ";");
        bounds(HEAD + "peal 5 ", 0, 11, ";");
        fault(1, HEAD + "peal", ";");
        Check.same("without a peal", sound(HEAD).count(7), 0);
        Check.same("one note", sound(HEAD + "peal 11;").count(7), 1);
        Check.same("like ones count once", sound(HEAD + "peal 3 3 3 4 3;").count(7), 2);
        Check.same("all notes", sound(HEAD + "peal 0 1 2 3 4 5 6 7 8 9 10 11;").count(7), 12);
        Check.same("a later one strikes", sound(HEAD + "peal 0 1 2;peal 7;").count(7), 1);
        BellMoney x = sound(TOWERS + "bell 1 tin 0 note 7 in 0;ward 0;peal 0;peal 7;");
        Check.same("the earlier one is gone", x.ward(0, 2), 0);
    }

    private static void dueLine() {
        bounds(HEAD + "due ", 1, 1000000, " in 0;");
        bounds(HEAD + "due 1 in ", 0, 19, ";");
        BellMoney x = sound(HEAD + "due 1000000 in 19;due 1 in 0;");
        Check.same("year", x.due(0, 0), 19);
        Check.same("much", x.due(0, 1), 1000000);
        Check.same("year", x.due(1, 0), 0);
        Check.same("much", x.due(1, 1), 1);
    }

    private static void keepsLine() {
        bounds(BELLS + "keeps ", 0, 2, ";");
        fault(2, HEAD + "keeps ", "0;");
        fault(2, TOWERS + "keeps ", "0;bell 1 tin 0 note 0 in 0;");
        fault(1, BELLS + "keeps 0 ", "1;");
        fault(1, BELLS + "keeps", ";");
        BellMoney x = sound(BELLS + "keeps 2;keeps 0;keeps 0;");
        Check.same("0 and 2 are kept", x.may(), 2);
    }

    private static void leastLine() {
        bounds(BELLS + "least ", 0, 10, ";");
        Check.same("without: 0", sound(BELLS).may(), 7);
        Check.same("3 hang", sound(BELLS + "least 3;").may(), 0);
        Check.same("3 hang, more than 2", sound(BELLS + "least 2;").may(), 7);
        Check.same("a later one strikes", sound(BELLS + "least 10;least 0;").may(), 7);
        Check.same("a later one strikes", sound(BELLS + "least 0;least 10;").may(), 0);
    }

    private static void afterLine() {
        sound(BELLS + "after 0 2;");
        sound(BELLS + "after 2 0;");
        fault(2, BELLS + "after 0 ", "0;");
        fault(2, BELLS + "after 2 ", "2;");
        fault(2, BELLS + "after 0 ", "3;");
        fault(2, BELLS + "after ", "3 3;");
        fault(2, BELLS + "after ", "3 0;");
        fault(1, BELLS + "after 0", ";");
        fault(1, BELLS + "after 0 1 ", "2;");
        fault(2, HEAD + "after ", "0 0;");
        BellMoney x = sound(BELLS + "after 0 2;");
        Check.same("the first only behind the second", x.why(0), 4);
        Check.same("the second is free", x.why(2), 0);
        x = sound(BELLS + "after 0 2;after 0 1;");
        x.melt(2);
        Check.same("a later one of the first strikes", x.why(0), 4);
        x.undo();
        x.melt(1);
        Check.same("a later one of the first strikes", x.why(0), 0);
        x = sound(BELLS + "after 0 2;after 1 2;");
        Check.same("one of another strikes not", x.why(0), 4);
        x = sound(BELLS + "after 0 1;after 1 2;after 2 0;");
        Check.same("round about: none may", x.may(), 0);
    }

    private static void numberedAsTheyStand() {
        BellMoney x = sound(HEAD + "due 7 in 3;tower holds 5;bell 2 tin 0 note 9 in 0;tower holds 6;ward 1;"
                + "bell 3 tin 0 note 8 in 1;due 6 in 3;ward 0;tower holds 7;due 9 in 1;");
        int[] holds = {5, 6, 7};
        int[] dues = {7, 6, 9};
        for (int i = 0; i < 3; i++) {
            Check.same("tower " + i, x.tower(i, 0), holds[i]);
            Check.same("due " + i, x.due(i, 1), dues[i]);
        }
        Check.same("bell 0", x.bell(0, 2), 9);
        Check.same("bell 1", x.bell(1, 2), 8);
        Check.same("ward 0", x.ward(0, 0), 2);
        Check.same("ward 1", x.ward(1, 0), 1);
    }

    private static void emptyAndBlank() {
        sound("");
        sound(" ");
        sound("\n");
        sound(" \n \n\n  ");
        fault(1, "", ";");
        fault(1, HEAD, ";");
        fault(1, HEAD + " \n", ";");
    }

    private static void blanks() {
        sound(" \n" + HEAD.replace(" ", "\n") + "\n");
        sound(HEAD.replace(" ", "  \n ").replace(";", "\n\n; "));
        for (int sign = 1; sign < 32; sign++) {
            if (sign != 10) {
                fault(1, HEAD, (char) sign + "peal 1;");
                fault(1, HEAD + "peal", (char) sign + "1;");
            }
        }
        fault(1, "", "\u0000" + HEAD);
        fault(1, HEAD, "\u0000");
        fault(1, HEAD, "\u00a0");
    }

    /** All that is no letter, digit or sign, next to those that are one too. */
    private static void signsThatAreNone() {
        for (int sign = 33; sign < 256; sign++) {
            boolean token = sign >= 'a' && sign <= 'z' || sign >= '0' && sign <= '9' || sign == ';';
            if (!token) {
                fault(1, HEAD + "peal 1", (char) sign + ";");
            }
        }
        fault(1, "", "Town coin 1");
        fault(1, "town ", "Coin 1");
        fault(1, "town coin 1", ",5 purse 0");
        fault(1, "town coin 10 purse ", "+5");
    }

    private static void longestTokens() {
        sound("town coin10purse100tax20trust5frost30;tower holds9;bell1tin0note0in0cracked;peal1 2;");
        fault(1, "", "towncoin 10 purse");
        fault(1, "town ", "coins 10");
        fault(1, HEAD + "tower holds 9;bell 1 tin 0 note 0 in 0", "crackedx;");
        fault(1, HEAD + "tower holds 9;bell 1 tin 0 note 0 in 0", "crackedcracked;");
        fault(1, HEAD + "tower holds 9;bell 1 tin 0 note 0 in 0cracked ", "cracked;");
        fault(2, HEAD + "peal ", "12;");
        sound(HEAD + "peal 1 2;");
        fault(1, HEAD + "peal 1 2", "a3;");
        fault(1, HEAD + "due 5 in 1", "in 2;");
    }

    private static void longNumbers() {
        fault(2, "town coin ", "4294967306 purse 0 tax 0 trust 0 frost 0;");
        fault(2, "town coin ", "18446744073709551626 purse 0 tax 0 trust 0 frost 0;");
        fault(2, "town coin ", "2147483648 purse 0 tax 0 trust 0 frost 0;");
        fault(2, HEAD + "due ", "10000000000 in 0;");
        fault(2, HEAD + "peal ", "9".repeat(1300) + ";");
        fault(2, HEAD + "peal ", "1" + "0".repeat(1300) + ";");
        Check.same("zeros ahead", sound(HEAD + "peal " + "0".repeat(1300) + "11;").count(7), 1);
        Check.same("zeros ahead", sound("town coin 00100 purse 0 tax 0 trust 0 frost 0;").count(4), 100);
        fault(2, HEAD + "peal ", "0".repeat(1300) + "12;");
    }

    private static void firstByPlace() {
        fault(2, "town coin ", "0 purse 100001 # tower");
        fault(1, "town coin 1 ", "# purse 100001 tax");
        fault(2, HEAD + "due ", "0 in 20;#");
        fault(2, HEAD + "due 1 in ", "20 20;");
        fault(1, HEAD + "due 1 in 1 ", "20;due 0 in 1;");
        fault(2, HEAD + "tower holds 5;bell 6 tin 0 note 0 in ", "0 #;");
        fault(2, HEAD + "tower holds 5;bell 6 tin ", "41 note 0 in 0;");
        fault(2, BELLS + "after ", "9 9;");
        fault(2, BELLS + "after 0 ", "0 #");
    }

    private static void ofOnePlaceTheLeast() {
        String towers = HEAD + "tower holds 9;tower holds 9;tower holds 9;tower holds 9";
        // a fifth tower, but a word can't stand there at all
        fault(1, towers + " ", "tower holds 9;");
        fault(3, towers + ";", "tower holds 9;");
        // out of bounds, but no number can stand there
        fault(1, "town ", "101 purse");
        fault(1, HEAD + "peal 1;", "999999999999;");
        fault(1, HEAD + "due 1 in 1 ", "20;");
    }

    private static void endOfText() {
        String text = BELLS + "ward 0 1;peal 1 2;due 5 in 6;keeps 0;least 1;after 0 1;";
        for (int size = 0; size <= text.length(); size++) {
            String part = text.substring(0, size);
            boolean whole = size == 0 || part.endsWith(";");
            BellMoney x = new BellMoney();
            int lines = Tell.town(x, part);
            Check.yes("a town or none: " + part, whole == (lines >= 0));
            // a word or a number cut off may be a fault at its first byte, else it is the end
            int token = size;
            while (token > 0 && part.charAt(token - 1) >= 'a' && part.charAt(token - 1) <= 'z') {
                token--;
            }
            if (!whole) {
                Check.same("fault of " + part, x.fault(0), 1);
                Check.yes("place in " + part, x.fault(1) == size || x.fault(1) == token);
            }
        }
        fault(1, "town", "");
        fault(1, "town coin 1 purse 0 tax 0 trust 0 frost 0", "");
        fault(1, HEAD + "tower", "");
        fault(1, HEAD + "peal 1", "");
        fault(1, HEAD + "peal 1 \n ", "");
        fault(1, TOWERS + "ward 0 ", "");
        fault(1, HEAD + "least", "");
        String full = HEAD + "peal 1" + " ".repeat(1400 - HEAD.length() - 6);
        fault(1, full, "");
        sound(full.substring(0, 1399) + ";");
    }

    private static void wordsThatCanNotStand() {
        fault(1, "town ", "purse 1 coin 1");
        fault(1, "town coin 1 purse 1 tax 1 ", "frost 1 trust 1;");
        fault(1, HEAD + "tower ", "9;");
        fault(1, HEAD + "tower holds ", "holds 9;");
        fault(1, TOWERS + "bell ", "tin 1 note 1 in 0;");
        fault(1, TOWERS + "bell 1 ", "note 1 tin 1 in 0;");
        fault(1, TOWERS + "bell 1 tin 1 note 1 ", "0;");
        fault(1, TOWERS + "bell 1 tin 1 note 1 in 0 ", "1;");
        fault(1, TOWERS + "bell 1 tin 1 note 1 in 0 ", "crackd;");
        fault(1, TOWERS + "tower holds 9 ", "cracked;");
        fault(1, HEAD + "due 1 ", "1;");
        fault(1, HEAD + "due ", "in 1;");
        fault(1, HEAD, "cracked;");
        fault(1, HEAD, "holds 5;");
        fault(1, HEAD, "coin 5;");
        fault(1, HEAD + "peal 1 ", "peal 2;");
    }

    private static void fifthTower() {
        String four = HEAD + "tower holds 9;".repeat(4);
        Check.same("four", sound(four).count(1), 4);
        fault(3, four, "tower holds 9;");
        fault(3, four, "tower holds 0;");
        fault(3, four, "tower");
        fault(3, four + "peal 1;\n", "tower");
    }

    private static void ninthBell() {
        String eight = HEAD + "tower holds 9;" + "bell 1 tin 0 note 0 in 0;".repeat(8);
        Check.same("eight", sound(eight).count(0), 8);
        sound(eight + "keeps 7;after 7 0;after 0 7;");
        fault(3, eight, "bell 1 tin 0 note 0 in 0;");
        fault(3, eight, "bell 0");
        fault(3, eight, "bell");
        fault(2, eight + "keeps ", "8;");
    }

    private static void fifthWard() {
        String four = HEAD + "tower holds 9;" + "ward 0;".repeat(4);
        Check.same("four", sound(four).count(2), 4);
        fault(3, four, "ward 0;");
        fault(3, four, "ward;");
        fault(3, four, "ward 7;");
    }

    private static void thirteenthDue() {
        String twelve = HEAD + "due 1 in 0;".repeat(12);
        Check.same("twelve", sound(twelve).count(3), 12);
        fault(3, twelve, "due 1 in 0;");
        fault(3, twelve, "due 0 in 20;");
        fault(3, twelve, "due");
        sound(twelve + "peal 1;".repeat(20) + "least 1;".repeat(20));
    }
}
