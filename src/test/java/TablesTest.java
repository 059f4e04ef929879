import java.util.Random;

/** TABLES of small grounds, held against a look at every SLIP there is. */
public final class TablesTest {
    private static final int GROUNDS = 12000;
    private static final Random CHANCE = new Random(7);
    private static int wrong;
    private static int told;
    private static int shorter;

    private static int from(int least, int most) {
        return least + CHANCE.nextInt(most - least + 1);
    }

    /** Few kinds of numbers, so that many SLIPS are as safe as others. */
    private static void tellColumns(SlopeJudge x, Model m, int high) {
        int n = m.w.n;
        int ground = from(0, high);
        boolean loads = CHANCE.nextInt(3) == 0;
        boolean layers = CHANCE.nextInt(2) == 0;
        for (int c = 0; c <= n; c++) {
            x.dig(c, 20 - ground);
            m.dig(c, 20 - ground);
            both(x, m, c, 0, CHANCE.nextInt(3) == 0 ? from(0, ground) : 0);
            both(x, m, c, 1, CHANCE.nextInt(3) == 0 ? from(0, high) : 0);
            both(x, m, c, 2, loads ? 10 * from(0, 9) : 0);
            for (int what = 3; what < 6 && layers; what++) {
                both(x, m, c, what, from(0, high));
            }
            ground = Math.max(0, Math.min(high, ground + from(-1, 3)));
        }
    }

    private static void both(SlopeJudge x, Model m, int c, int what, int v) {
        x.tell(c, what, v);
        m.tell(c, what, v);
    }

    private static void tellRest(SlopeJudge x, Model m) {
        int hold = CHANCE.nextInt(3) == 0 ? 0 : from(0, 4);
        int rub = CHANCE.nextInt(4) == 0 ? 0 : from(0, 1500);
        boolean alike = CHANCE.nextBoolean();
        for (int l = 0; l < 4; l++) {
            int weight = alike ? 20 : from(1, 30);
            int ownHold = alike ? hold : from(0, 4);
            int ownRub = alike ? rub : from(0, 1500);
            x.soil(l, weight, ownHold, ownRub);
            m.soil(l, weight, ownHold, ownRub);
        }
        int quake = CHANCE.nextInt(3) == 0 ? from(0, 500) : 0;
        x.quake(quake);
        m.quake(quake);
        x.anchor(0, 2, 100, 500);
    }

    private static void hold(int number) {
        SlopeJudge x = new SlopeJudge();
        Model m = new Model();
        int n = from(4, number % 10 == 0 ? 6 : 5);
        int b = CHANCE.nextInt(3) == 0 ? from(1, 10) : from(1, 2);
        x.size(n, b);
        m.size(n, b);
        tellColumns(x, m, n == 6 ? 4 : 6);
        tellRest(x, m);
        int t = from(1, CHANCE.nextInt(4) == 0 ? 12 : 3);
        boolean left = CHANCE.nextInt(4) > 0;
        Model.Slip[] found = new Model.Slip[1];
        int k = m.w.tables(t, left, found);
        String at = "ground " + number + ": tables(" + t + ", " + left + ", ";
        due(at + "0)", x.tables(t, left, 0), k);
        for (int what = 1; what < 17; what++) {
            if (what < 3 || what > 9) {
                due(at + what + ")", x.tables(t, left, what), found[0] == null ? -1 : Model.told(found[0], what));
            }
        }
        told += found[0] == null ? 0 : 1;
        shorter += found[0] != null && found[0].a > 0 ? 1 : 0;
        due(at + "worst)", x.worst(t, left), found[0] == null ? -1 : found[0].b - found[0].a);
    }

    private static void due(String call, long got, long want) {
        if (got != want) {
            wrong++;
            if (wrong < 10) {
                System.out.println(call + " answered " + got + ", due is " + want);
            }
        }
    }

    public static void main(String[] args) {
        for (int i = 0; i < GROUNDS; i++) {
            hold(i);
        }
        System.out.println(GROUNDS + " tables, a slip told by " + told + ", not from column 0 on by " + shorter + ", "
                + wrong + " wrong");
        if (wrong != 0) {
            System.exit(1);
        }
    }
}
