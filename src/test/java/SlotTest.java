/** Promises 23 and 62 to 64: plans, rows, write, paste. */
public final class SlotTest {
    public static void main(String[] args) {
        rows();
        writes();
        pastes();
        plansRefused();
        plans();
        planLater();
        Check.end();
    }

    private static void rows() {
        BellMoney x = new BellMoney();
        Check.same("no such slot", x.row(4, 0, 1), -2);
        Check.same("no such slot", x.row(-1, 0, 1), -2);
        Check.same("no such width", x.row(0, 4, 1), -2);
        Check.same("no such width", x.row(0, -1, 1), -2);
        Check.same("too many", x.row(0, 0, 61), -2);
        Check.same("no such width, below 0", x.row(0, 4, -1), -2);
        Check.same("below 0", x.row(0, 0, -1), -3);
        Check.same("none has a row", x.count(11), 0);
        Check.same("sixty", x.row(0, 3, 60), 0);
        Check.same("none", x.row(3, 0, 0), 0);
        Check.same("two have a row", x.count(11), 2);
        Check.same("below 0", x.row(0, 0, -1), -3);
        Check.same("the row stays", x.write(0, 59, 1), 0);
        Check.same("another one", x.row(0, 0, 1), 0);
        Check.same("it is shorter", x.write(0, 1, 1), -7);
        Check.same("two have a row", x.count(11), 2);
    }

    private static void writes() {
        BellMoney x = Tell.town(LookTest.TOWN);
        Check.same("no such slot", x.write(4, 0, 1), -2);
        Check.same("no such slot", x.write(-1, 0, 1), -2);
        Check.same("it has nothing", x.write(0, 0, 1), -6);
        long[] cut = {256, 65536, 1L << 32};
        for (int width = 0; width < 3; width++) {
            x.row(0, width, 2);
            Check.same("no such number", x.write(0, 2, 1), -7);
            Check.same("no such number", x.write(0, -1, 1), -7);
            Check.same("cut", x.write(0, 0, cut[width] * 3), 0);
            Check.same("cut", x.write(0, 1, cut[width] * -5 + 3), 0);
            Check.same("year 0, bell 3", x.plan(0, 4), 0);
            Check.same("not cut off", x.write(0, 0, cut[width] >> 1), 0);
            Check.same("no such year", x.plan(0, 4), -2);
        }
        x.row(0, 3, 2);
        x.write(0, 1, 1L << 32);
        Check.same("eight bytes are not cut", x.plan(0, 4), -2);
        x.row(0, 3, 2);
        Check.same("all 0: bell 0 in year 0", x.plan(0, 4), 0);
    }

    private static void pastes() {
        BellMoney x = Tell.town(LookTest.TOWN);
        Tell.plan(x, 0, 0, 3, 1, 1, 2, 2);
        x.row(1, 0, 4);
        x.row(2, 1, 6);
        Check.same("no such slot", x.paste(4, 0, 0, 0, 1), -2);
        Check.same("no such slot", x.paste(0, 0, -1, 0, 1), -2);
        Check.same("no such slot ahead of nothing", x.paste(3, 0, 4, 0, 1), -2);
        Check.same("it has nothing", x.paste(3, 0, 0, 0, 1), -6);
        Check.same("it has nothing", x.paste(0, 0, 3, 0, 1), -6);
        Check.same("another width", x.paste(0, 0, 2, 0, 99), -8);
        Check.same("beyond the source", x.paste(0, 5, 1, 0, 2), -7);
        Check.same("beyond the target", x.paste(0, 0, 1, 3, 2), -7);
        Check.same("below 0", x.paste(0, -1, 1, 0, 1), -7);
        Check.same("below 0", x.paste(0, 0, 1, -1, 1), -7);
        Check.same("below 0", x.paste(0, 0, 1, 0, -1), -7);
        Check.same("far beyond", x.paste(0, Integer.MAX_VALUE, 1, 0, Integer.MAX_VALUE), -7);
        Check.same("far beyond", x.paste(0, 1, 1, 1, Integer.MAX_VALUE), -7);
        Check.same("none at the end", x.paste(0, 6, 1, 4, 0), 0);
        Check.same("nothing happened", x.plan(1, 4), 1);
        Check.same("four", x.paste(0, 0, 1, 0, 4), 0);
        Check.same("as its plan: bell 3, then 1 that may not", x.plan(1, 4), 1);
        Check.same("purse", x.plan(1, 0), x.plan(0, 0));
        // 0 3 1 1 2 2 becomes 0 3 0 3 1 1: as they were, though they lie over one another
        Check.same("over itself", x.paste(0, 0, 0, 2, 4), 0);
        Check.same("two of three are not melted", x.plan(0, 4), 2);
        // 0 3 0 3 1 1 becomes 0 3 1 1 1 1
        Check.same("down over itself", x.paste(0, 2, 0, 0, 4), 0);
        Tell.plan(x, 1, 0, 3, 1, 1);
        Check.same("as another plan", x.plan(0, 0), x.plan(1, 0));
    }

    private static void plansRefused() {
        BellMoney x = new BellMoney();
        x.row(0, 0, 2);
        Check.same("no town", x.plan(0, 0), -2);
        Tell.town(x, LookTest.TOWN);
        Check.same("no such slot", x.plan(4, 0), -2);
        Check.same("no such slot", x.plan(-1, 0), -2);
        Check.same("no such what", x.plan(0, 6), -2);
        Check.same("no such what", x.plan(0, -1), -2);
        Check.same("no such what, and nothing", x.plan(1, 6), -2);
        Check.same("it has nothing", x.plan(1, 0), -6);
        x.row(1, 2, 3);
        Check.same("not two each", x.plan(1, 0), -2);
        Tell.plan(x, 1, 20, 0);
        Check.same("no such year", x.plan(1, 0), -2);
        Tell.plan(x, 1, -1, 0);
        Check.same("no such year", x.plan(1, 0), -2);
        Tell.plan(x, 1, 0, 4);
        Check.same("no such bell", x.plan(1, 0), -2);
        Tell.plan(x, 1, 0, -1);
        Check.same("no such bell", x.plan(1, 0), -2);
        x.cast(10, 0, 0, 0);
        Tell.plan(x, 1, 0, 4);
        Check.same("there is a bell 4", x.plan(1, 4), 0);
    }

    private static void plans() {
        // bell 0 gives 49 and bell 1 gives 9: 178 is enough for the due of 150
        BellMoney x = Tell.town(LookTest.TOWN);
        Tell.plan(x, 0);
        Check.same("nothing melted", x.plan(0, 4), 0);
        Check.same("the first year is not paid", x.plan(0, 5), 0);
        Check.same("no ward missed a note", x.plan(0, 3), -1);
        Check.same("purse", x.plan(0, 0), 100 + 20 * 20 - 100);
        Check.same("trust", x.plan(0, 1), 5);
        Check.same("debt", x.plan(0, 2), 150L << 20);
        Tell.plan(x, 0, 0, 1, 0, 0, 0, 1, 0, 2, 0, 3);
        Check.same("first 1, then 2 and 3 are not melted", x.plan(0, 4), 3);
        Check.same("wards missed the first note", x.plan(0, 3), 0);
        // trust 5 3 1 0 ..; year 2: 60 and 40 at trust 1 are 84 and 56
        Check.same("all is paid in year 0 and 1, not in 2", x.plan(0, 5), 2);
        Check.same("trust", x.plan(0, 1), 0);
        Tell.plan(x, 0, 3, 1, 2, 0);
        Check.same("by years, not by the row's order", x.plan(0, 4), 0);
        Check.same("the first year without", x.plan(0, 3), 2);
        x.row(1, 1, 60);
        for (int i = 0; i < 30; i++) {
            x.write(1, 2 * i, 19);
        }
        x.write(1, 58, 18);
        x.write(1, 59, 3);
        Check.same("all of thirty but 0 and 3, the last of them, are not melted", x.plan(1, 4), 28);
        Check.same("nothing was done", x.count(8), 0);
        Check.same("nothing was done", x.now(5), 15);
    }

    private static void planLater() {
        BellMoney x = Tell.town(LookTest.TOWN);
        x.raise(0, 1);
        x.passes();
        x.passes();
        Tell.plan(x, 0, 1, 0, 2, 0, 19, 3);
        Check.same("a year that has passed", x.plan(0, 4), 1);
        Check.same("the first year without, from now on", x.plan(0, 3), 2);
        for (int year = 2; year < 20; year++) {
            x.passes();
        }
        Check.same("all have passed", x.plan(0, 4), 3);
        Check.same("purse now", x.plan(0, 0), x.now(1));
        Check.same("none", x.plan(0, 3), -1);
        Check.same("none", x.plan(0, 5), -1);
    }
}
