import java.util.Arrays;

/** A floor with one way alone, of a told time: it winds from cell 0 between holes; behind its end there is none. */
final class Way {

    /** Of its cells none but neighbours in this row lie beside one another. */
    static final int[] PATH = {0, 6, 12, 18, 24, 30, 31, 32, 26, 27, 21, 15, 14, 8, 2, 3, 4, 10, 11, 17, 23, 29, 35, 34};

    final RingingRock x = new RingingRock();
    /** The cell to which the time from cell 0 is as told, and the one ahead of it. */
    final int end;
    final int aheadOfEnd;

    Way(int time) {
        x.sheet(3, 8, 36);
        for (int c = 0; c < 36; c++) {
            x.write(3, c, 2);
        }
        int[] stuffs = stuffsFor(time);
        x.write(3, PATH[0], 0);
        for (int i = 1; i <= stuffs.length; i++) {
            x.write(3, PATH[i], stuffs[i - 1]);
        }
        x.load(3);
        x.sheet(3, 0, 0);
        end = PATH[stuffs.length];
        aheadOfEnd = PATH[Math.max(0, stuffs.length - 1)];
    }

    /** As few stuffs as can be whose paces make this sum: much rubble, and what is left over. */
    private static int[] stuffsFor(int time) {
        for (int steps = 0; steps < PATH.length; steps++) {
            for (int water = 0; water <= steps; water++) {
                for (int rock = 0; rock + water <= steps; rock++) {
                    for (int iron = 0; iron + rock + water <= steps; iron++) {
                        int rubble = steps - water - rock - iron;
                        if (6 * rubble + 3 * water + 2 * rock + iron == time) {
                            int[] stuffs = new int[steps];
                            Arrays.fill(stuffs, 1);
                            Arrays.fill(stuffs, 0, water, 3);
                            Arrays.fill(stuffs, water, water + rock, 0);
                            Arrays.fill(stuffs, water + rock, water + rock + iron, 4);
                            return stuffs;
                        }
                    }
                }
            }
        }
        throw new IllegalArgumentException("no way takes " + time);
    }

    /** A crew at a cell. */
    int crew(int kind, int cell, int force) {
        int crew = x.crew(kind, cell);
        x.change(crew, 2, force);
        return crew;
    }
}
