/** Promises 35 to 38: years, ahead, when, seed. */
public final class YearsTest {

    private static final Due due = new Due();

    public static void main(String[] args) {
        seed();
        oneYear();
        years();
        ahead();
        when();
        whenByDraws();
        whenIn60();
        lastYears();
        due.end();
    }

    private static void seed() {
        RingingRock x = new RingingRock();
        due.is("at first", x.seed(Integer.MIN_VALUE), 1);
        due.is("any int", x.seed(Due.BEYOND), Integer.MIN_VALUE);
        due.is("as great as a finding", x.count(6), Due.BEYOND);
        due.is("as great as a finding", x.seed(0), Due.BEYOND);
        due.is("that is none", x.status(-1), 0);
    }

    /** The draws, said once more. */
    private static int next(int z) {
        return z * 1103515245 + 12345;
    }

    private static void oneYear() {
        for (int z = -50; z < 50; z++) {
            RingingRock x = new RingingRock();
            x.seed(z * 7654321);
            int first = next(z * 7654321);
            int second = next(first);
            int cell = (first >>> 8) % 36;
            int stuff = (second >>> 8) % 5;
            due.is("holes", x.years(1), stuff == 2 ? 1 : 0);
            due.is("the cell is of it", x.stuff(cell, 0), stuff);
            due.is("and no other one changed", x.cells(0), (1L << 36) - 1);
            due.is("z is as drawn", x.count(6), second);
            due.is("a year", x.count(0), 1);
        }
    }

    private static void years() {
        RingingRock x = new RingingRock();
        due.is("n 0", x.years(0), Due.BEYOND);
        due.is("n -1", x.years(-1), Due.BEYOND);
        due.is("n 61", x.years(61), Due.BEYOND);
        due.is("nothing changes", x.count(6), 1);
        RingingRock y = new RingingRock();
        int holes = x.years(60);
        for (int i = 0; i < 59; i++) {
            y.years(1);
        }
        due.is("60 years or 60 times one", y.years(1), holes);
        due.is("year", x.count(0), 60);
        due.is("year", y.count(0), 60);
        due.is("z", x.count(6), y.count(6));
        for (int stuff = 0; stuff < 5; stuff++) {
            due.is("cells", x.cells(stuff), y.cells(stuff));
        }
        due.is("holes", x.count(2), holes);
    }

    private static void ahead() {
        RingingRock x = new RingingRock();
        Due.tell(x, "crew at 7 force 2; hole 35");
        due.is("no year: holes", x.ahead(0, 0), 1);
        due.is("no year: silent cells", x.ahead(0, 1), Long.bitCount(x.silent()));
        due.is("no year: none", x.ahead(0, 2), -1);
        x.stuff(35, 0);
        due.is("no year: time", x.ahead(0, 2), 20);
        int[] holes = new int[61];
        int[] silent = new int[61];
        int[] time = new int[61];
        for (int n = 0; n <= 60; n++) {
            holes[n] = x.ahead(n, 0);
            silent[n] = x.ahead(n, 1);
            time[n] = x.ahead(n, 2);
        }
        due.is("nothing changes", x.count(6), 1);
        due.is("nothing changes", x.count(0), 0);
        due.is("nothing changes", x.cells(0), (1L << 36) - 1);
        for (int n = 1; n <= 60; n++) {
            due.is("holes then", x.years(1), holes[n]);
            due.is("silent then", Long.bitCount(x.silent()), silent[n]);
            int then = x.time(0, 35);
            due.is("time then", then == Due.NONE ? -1 : then, time[n]);
        }
        due.is("n -1", x.ahead(-1, 0), Due.BEYOND);
        due.is("n 61", x.ahead(61, 0), Due.BEYOND);
        due.is("what 3", x.ahead(0, 3), Due.BEYOND);
        due.is("what -1", x.ahead(0, -1), Due.BEYOND);
    }

    private static void when() {
        RingingRock x = new RingingRock();
        due.is("no crew", x.when(0, 0), Due.BEYOND);
        x.crew(0, 0);
        x.crew(3, 35);
        due.is("crew 2", x.when(2, 0), Due.BEYOND);
        due.is("crew -1", x.when(-1, 0), Due.BEYOND);
        due.is("cell 36", x.when(0, 36), Due.BEYOND);
        due.is("cell -1", x.when(0, -1), Due.BEYOND);
        int[] due0 = new int[36];
        int[] due1 = new int[36];
        for (int c = 0; c < 36; c++) {
            due0[c] = x.when(0, c);
            due1[c] = x.when(1, c);
        }
        due.is("nothing changes", x.count(0), 0);
        due.is("nothing changes", x.count(6), 1);
        int[] first0 = new int[36];
        int[] first1 = new int[36];
        RingingRock now = new RingingRock();
        Due.tell(now, "crew; bell at 35");
        for (int n = 1; n <= 60; n++) {
            x.years(1);
            for (int c = 0; c < 36 && n <= 6; c++) {
                first0[c] = first0[c] == 0 && x.heard(0, c) != now.heard(0, c) ? n : first0[c];
            }
        }
        for (int c = 0; c < 36; c++) {
            due.holds("first then, or later than tried", first0[c] == due0[c]
                    || first0[c] == 0 && (due0[c] > 6 || due0[c] == Due.NONE));
            due.holds("a number of years or none", due1[c] == Due.NONE || due1[c] >= 1 && due1[c] <= 60);
        }
    }

    /** The place and the stuff of a year's draws, of which z is told. */
    private static int cellOf(int z) {
        return (next(z) >>> 8) % 36;
    }

    private static int stuffOf(int z) {
        return (next(next(z)) >>> 8) % 5;
    }

    private static int seedOf(int cell, int stuff) {
        for (int z = 0; z < 100000; z++) {
            if (cellOf(z) == cell && stuffOf(z) == stuff) {
                return z;
            }
        }
        throw new IllegalStateException();
    }

    private static void whenByDraws() {
        RingingRock x = new RingingRock();
        Due.tell(x, "crew at 3; mute at 20");
        x.seed(seedOf(4, 4));
        due.is("earlier by iron", x.when(0, 4), 1);
        x.seed(seedOf(4, 2));
        due.is("no more by a hole", x.when(0, 4), 1);
        x.seed(seedOf(3, 2));
        due.is("no more: its own is a hole", x.when(0, 3), 1);
        x.stuff(4, 2);
        x.seed(seedOf(4, 1));
        due.is("first by rubble", x.when(0, 4), 1);
        x.seed(seedOf(20, 4));
        due.holds("its own cell of another stuff is all one", x.when(1, 20) != 1);
        due.is("a mute one is heard in no other cell", x.when(1, 21), Due.NONE);
        due.is("ahead by the draws", x.ahead(1, 0), 1);
    }

    /** The first year by which a cell is a hole, of a z. */
    private static int yearOfHole(int seed, int cell) {
        int z = seed;
        for (int n = 1; n <= 61; n++) {
            if (cellOf(z) == cell && stuffOf(z) == 2) {
                return n;
            }
            z = next(next(z));
        }
        return 0;
    }

    private static void whenIn60() {
        int tried = 0;
        for (int seed = 0; tried < 4 && seed < 100000; seed++) {
            int year = yearOfHole(seed, 14);
            if (year >= 60) {
                RingingRock x = new RingingRock();
                x.crew(5, 14);
                x.seed(seed);
                due.is("in year " + year, x.when(0, 14), year == 60 ? 60 : Due.NONE);
                tried++;
            }
        }
        due.is("seeds found", tried, 4);
    }

    private static void lastYears() {
        RingingRock x = new RingingRock();
        x.crew(5, 0);
        for (int i = 0; i < 15; i++) {
            x.years(60);
        }
        x.years(39);
        due.is("year 939", x.count(0), 939);
        due.is("60 years from 939", x.when(0, 35), Due.NONE);
        due.holds("60 years from 939", x.ahead(60, 0) >= 0);
        x.years(1);
        due.is("year 940", x.when(0, 35), Due.STATE);
        due.is("beyond ahead of state", x.when(1, 35), Due.BEYOND);
        due.is("ahead of 1000", x.ahead(60, 0), Due.STATE);
        due.is("beyond ahead of state", x.ahead(61, 0), Due.BEYOND);
        due.is("beyond ahead of state", x.ahead(60, 3), Due.BEYOND);
        due.holds("ahead of 999", x.ahead(59, 0) >= 0);
        due.is("1000", x.years(60), Due.STATE);
        due.is("beyond ahead of state", x.years(61), Due.BEYOND);
        due.is("still 940", x.count(0), 940);
        due.holds("999", x.years(59) >= 0);
        due.is("999", x.count(0), 999);
        due.is("no year more", x.years(1), Due.STATE);
        due.is("no year more", x.ahead(1, 2), Due.STATE);
        due.is("no year", x.ahead(0, 0), x.count(2));
        due.is("beyond ahead of state", x.years(0), Due.BEYOND);
    }
}
