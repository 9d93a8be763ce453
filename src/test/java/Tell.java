/** Brings texts onto an object's tape. */
final class Tell {
    private Tell() {
    }

    static BellMoney town(String text) {
        BellMoney x = new BellMoney();
        Check.yes("a town: " + text, town(x, text) > 0);
        return x;
    }

    static int town(BellMoney x, String text) {
        put(x, text);
        return x.town();
    }

    /** The tape is the text alone. */
    static void put(BellMoney x, String text) {
        x.end(0);
        int size = text.length();
        for (int i = 0; i < size; i += 20) {
            x.feed(four(text, i), four(text, i + 4), four(text, i + 8), four(text, i + 12), four(text, i + 16));
        }
        Check.same("end", x.end(size), size);
    }

    static void plan(BellMoney x, int slot, int... numbers) {
        x.row(slot, 0, numbers.length);
        for (int i = 0; i < numbers.length; i++) {
            x.write(slot, i, numbers[i]);
        }
    }

    private static int four(String text, int from) {
        int word = 0;
        for (int i = from; i < from + 4; i++) {
            word = word << 8 | (i < text.length() ? text.charAt(i) & 255 : 0);
        }
        return word;
    }
}
