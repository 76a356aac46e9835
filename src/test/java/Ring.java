/** Rings told shortly, and all that can be seen of one. */
final class Ring {
    private Ring() {
    }

    /** "2 3 0, 5 4 1" are two provinces (hunger, temper, tub), "6 10, 2 0" two tamers (nerve, meat). */
    static TamerState of(String provinces, String tamers) {
        TamerState x = new TamerState();
        for (int[] p : rows(provinces)) {
            x.province(p[0], p[1], p[2]);
        }
        for (int[] t : rows(tamers)) {
            x.tamer(t[0], t[1]);
        }
        return x;
    }

    private static int[][] rows(String told) {
        if (told.isEmpty()) {
            return new int[0][];
        }
        String[] rows = told.split(", ");
        int[][] numbers = new int[rows.length][];
        for (int i = 0; i < rows.length; i++) {
            String[] row = rows[i].split(" ");
            numbers[i] = new int[row.length];
            for (int k = 0; k < row.length; k++) {
                numbers[i][k] = Integer.parseInt(row[k]);
            }
        }
        return numbers;
    }

    static int[] hungers(TamerState x) {
        return ofAll(x, 0);
    }

    static int[] tempers(TamerState x) {
        return ofAll(x, 1);
    }

    static int[] tubs(TamerState x) {
        return ofAll(x, 2);
    }

    private static int[] ofAll(TamerState x, int what) {
        int[] all = new int[x.count(0)];
        for (int p = 0; p < all.length; p++) {
            all[p] = x.of(p, what);
        }
        return all;
    }

    static void meat(TamerState x, int times, int tamer, int province) {
        for (int i = 0; i < times; i++) {
            x.meat(tamer, province);
        }
    }

    /** What stands, without what was REFUSED, what was read last, and the latest decades. */
    static String kept(TamerState x) {
        StringBuilder seen = new StringBuilder();
        for (int what : new int[] {0, 1, 2, 3, 4, 12, 13, 14, 15}) {
            seen.append(x.count(what)).append(' ');
        }
        for (int p = 0; p < x.count(0); p++) {
            for (int what = 0; what < 5; what++) {
                seen.append(x.of(p, what)).append(' ');
            }
            seen.append(x.tempers(p)).append(' ');
        }
        for (int t = 0; t < x.count(1); t++) {
            for (int what = 0; what < 4; what++) {
                seen.append(x.at(t, what)).append(' ');
            }
            for (int p = 0; p < x.count(0); p++) {
                seen.append(x.asks(t, p, 0)).append(x.asks(t, p, 1)).append(x.asks(t, p, 2)).append(' ');
            }
        }
        return seen.append(x.one(-1)).toString();
    }

    /** All of it, but for what was REFUSED. */
    static String all(TamerState x) {
        StringBuilder seen = new StringBuilder(kept(x));
        seen.append(" undo ").append(x.count(5)).append(" tape ").append(x.count(6));
        seen.append(" read ").append(x.saucers()).append(' ').append(x.fault()).append(' ').append(x.stopped());
        for (int what = 0; what < 4; what++) {
            seen.append(' ').append(x.drawn(0, what));
        }
        return seen.toString();
    }
}
