import java.util.Arrays;
import java.util.Random;

/**
 * Namings of up to fourteen men and ten bodies, too many to be listed one by one: they are counted by sets of men, once
 * without each body, and so for each man whom it can have. Who fits whom is asked of the object itself.
 */
public final class Crowds extends Cases {
    private static final String[] CHARTERS = {"may near 7;", "may near 7;sure disc 2;", "may near 0;may disc 1;may boots;",
        "sure boots teeth 1;may disc 1;may button;may boots;may teeth 1;", "may near 2;sure button boots;",
        "sure disc 1 button;may boots;may teeth 1;may disc 1;"};
    private static final int STATES = 500;

    public static void main(String[] args) {
        test("Terms 3", "all ways to give MEN to BODIES, each MAN to one BODY at most");
        int crowded = 0;
        int found = 0;
        for (int seed = 0; seed < STATES; seed++) {
            Random dice = new Random(seed);
            StonesAlike x = crowd(dice, CHARTERS[seed % CHARTERS.length]);
            int n = x.count(3);
            crowded += x.namings(n, 1) > 1000 ? 1 : 0;
            found += Integer.bitCount(x.missing(n)) < x.count(0) ? 1 : 0;
            new Count(x, n).compare("crowd " + seed);
            int fewer = 1 + dice.nextInt(n);
            new Count(x, fewer).compare("crowd " + seed + " as known by " + fewer);
            x.weeks(10);
            due("the wall of crowd " + seed, x.wall(), x.missing(n));
        }
        due("a tenth of the crowds at least has many namings", crowded * 10 >= STATES, true);
        due("and a tenth some whom a body is named as", found * 10 >= STATES, true);
        end("Crowds", "Terms 3");
    }

    /** Bodies with a few readings each, most of them of a man on the lists. */
    private static StonesAlike crowd(Random dice, String rules) {
        StonesAlike x = ruled(rules);
        x.land(2 + dice.nextInt(4), 2 + dice.nextInt(4));
        for (int i = 4 + dice.nextInt(4); i >= 0; i--) {
            x.stand(i % 4, dice.nextInt(4), 0, 5 + dice.nextInt(10));
        }
        for (int i = 8 + dice.nextInt(7); i > 0; i--) {
            int number = 1000 * dice.nextInt(2) + 100 * dice.nextInt(2) + 10 * dice.nextInt(3) + dice.nextInt(10);
            x.man(dice.nextInt(4), number, dice.nextInt(12), dice.nextInt(3), dice.nextInt(256));
        }
        int most = 1 + dice.nextInt(4);
        for (int i = 6 + dice.nextInt(5); i > 0; i--) {
            int body = x.body(dice.nextInt(4));
            int like = dice.nextInt(x.count(0));
            for (int k = 1 + dice.nextInt(most); k > 0; k--) {
                readAs(x, body, dice.nextInt(8) == 0 ? dice.nextInt(x.count(0)) : like, dice.nextInt(14));
            }
        }
        for (int i = dice.nextInt(4); i > 0; i--) {
            x.strike(dice.nextInt(x.count(3)));
        }
        return x;
    }

    private static void readAs(StonesAlike x, int body, int man, int thing) {
        if (thing < 4) {
            x.read(body, 0, thing, String.format("%04d", x.look(man, 1)).charAt(thing) - '0');
        } else if (thing < 6) {
            x.read(body, thing - 3, 0, x.look(man, thing == 4 ? 0 : 3));
        } else {
            x.read(body, 3, thing - 6, x.look(man, 4) >> (thing - 6) & 1);
        }
    }

    private static final class Count {
        private final StonesAlike x;
        private final int n;
        private final int men;
        private final int bodies;
        private final int[][] fit;
        /** The men whom a body can be given, as bits, and whether it can have nobody. */
        private final int[] can;
        private final boolean[] bound;

        Count(StonesAlike x, int n) {
            this.x = x;
            this.n = n;
            men = x.count(0);
            bodies = x.count(2);
            fit = new int[bodies][men];
            can = new int[bodies];
            bound = new boolean[bodies];
            for (int body = 0; body < bodies; body++) {
                for (int man = 0; man < men; man++) {
                    fit[body][man] = x.fits(n, body, man);
                    can[body] |= fit[body][man] >= 2 ? 1 << man : 0;
                }
            }
            for (int man = 0; man < men; man++) {
                bind(man);
            }
        }

        private void bind(int man) {
            int owner = NONE;
            int sure = 0;
            for (int body = 0; body < bodies; body++) {
                if (fit[body][man] == 3) {
                    owner = body;
                    sure++;
                }
            }
            if (sure == 1) {
                can[owner] = 1 << man;
                bound[owner] = true;
            }
        }

        /** In how many ways all bodies but one have just the men of each set. */
        private long[] waysWithout(int left) {
            long[] ways = new long[1 << men];
            ways[0] = 1;
            for (int body = 0; body < bodies; body++) {
                if (body != left) {
                    ways = withBody(ways, body);
                }
            }
            return ways;
        }

        private long[] withBody(long[] ways, int body) {
            long[] more = bound[body] ? new long[ways.length] : ways.clone();
            for (int set = 0; set < ways.length; set++) {
                for (int rest = ways[set] == 0 ? 0 : can[body] & ~set; rest != 0; rest &= rest - 1) {
                    more[set | Integer.lowestOneBit(rest)] += ways[set];
                }
            }
            return more;
        }

        private int most(long[] ways) {
            int most = 0;
            for (int set = 0; set < ways.length; set++) {
                most = ways[set] != 0 ? Math.max(most, Integer.bitCount(set)) : most;
            }
            return most;
        }

        void compare(String what) {
            long[] ways = waysWithout(NONE);
            int most = most(ways);
            long all = 0;
            for (int set = 0; set < ways.length; set++) {
                all += Integer.bitCount(set) == most ? ways[set] : 0;
            }
            due(what + ": bodies that have a man", x.namings(n, 0), most);
            due(what + ": namings", x.namings(n, 1), all);
            int missing = (1 << men) - 1;
            for (int body = 0; body < bodies; body++) {
                long[] having = having(body, most);
                int who = 0;
                int named = NONE;
                for (int man = 0; man < men; man++) {
                    who |= having[man] != 0 ? 1 << man : 0;
                    named = having[man] == all ? man : named;
                }
                boolean known = men > 0 && fit[body][0] != NONE;
                due(what + ": who is body " + body, x.who(n, body), known ? who : NONE);
                due(what + ": named is body " + body, x.named(n, body), known ? named : NONE);
                due(what + ": each naming counts once", Arrays.stream(having).sum(), all);
                missing &= named == NONE ? missing : ~(1 << named);
            }
            due(what + ": missing", x.missing(n), missing);
        }

        /** In how many namings a body has each man, and behind these in how many nobody. */
        private long[] having(int body, int most) {
            long[] others = waysWithout(body);
            long[] having = new long[men + 1];
            for (int set = 0; set < others.length; set++) {
                int placed = Integer.bitCount(set);
                for (int man = 0; placed == most - 1 && man < men; man++) {
                    having[man] += (can[body] & ~set & 1 << man) != 0 ? others[set] : 0;
                }
                having[men] += placed == most && !bound[body] ? others[set] : 0;
            }
            return having;
        }
    }
}
