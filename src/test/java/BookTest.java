/** Promises 24 to 34: books, maps, digging. */
public final class BookTest {

    private static final Due due = new Due();
    private static final long ALL = (1L << 36) - 1;

    public static void main(String[] args) {
        books();
        wrong();
        fits();
        unheard();
        maps();
        may();
        lays();
        asks();
        dig();
        digByHoles();
        safe();
        ways();
        due.end();
    }

    private static void books() {
        RingingRock x = new RingingRock();
        due.is("from -1", x.book(-1, 0, 0), Due.BEYOND);
        due.is("from 36", x.book(36, 0, 0), Due.BEYOND);
        due.is("to -1", x.book(0, -1, 0), Due.BEYOND);
        due.is("to 36", x.book(0, 36, 0), Due.BEYOND);
        due.is("time -1", x.book(0, 0, -1), Due.BEYOND);
        due.is("time 100", x.book(0, 0, 100), Due.BEYOND);
        for (int i = 1; i <= 8; i++) {
            due.is("book", x.book(i, 35, i == 8 ? 99 : 0), i);
        }
        due.is("a 9th", x.book(0, 0, 0), Due.FULL);
        due.is("beyond ahead of full", x.book(0, 0, 100), Due.BEYOND);
        due.is("in books", x.count(3), 8);
        due.is("burn", x.burn(), 8);
        due.is("burn again", x.burn(), 0);
        due.is("in books", x.count(3), 0);
        due.is("book again", x.book(0, 0, 0), 1);
    }

    private static void wrong() {
        RingingRock x = new RingingRock();
        due.is("empty books fit", x.wrong(), Due.NONE);
        x.book(0, 1, 2);
        due.is("it fits", x.wrong(), Due.NONE);
        x.book(0, 2, 4);
        x.book(0, 3, 5);
        x.book(0, 4, 9);
        due.is("the first wrong one", x.wrong(), 2);
        x.stuff(3, 3);
        due.is("as it is now", x.wrong(), 2);
        x.stuff(2, 4);
        due.is("as it is now", x.wrong(), 1);
        x.stuff(1, 1);
        due.is("as it is now", x.wrong(), 0);
        x.burn();
        due.is("burnt", x.wrong(), Due.NONE);
    }

    private static void fits() {
        RingingRock x = new RingingRock();
        due.is("one map", x.fits(), 1);
        x.book(0, 1, 2);
        due.is("it fits", x.fits(), 1);
        x.stuff(1, 4);
        due.is("it doesn't", x.fits(), 0);
        x.unsure(1);
        due.is("rock alone fits", x.fits(), 1);
        x.unsure(20);
        due.is("5 of 25", x.fits(), 5);
        x.unsure(21);
        x.unsure(22);
        due.is("125 of 625", x.fits(), 125);
        due.is("trying them changes nothing", x.cells(4), 2);
        x.burn();
        due.is("all 625", x.fits(), 625);
        x.sure();
        due.is("one map again", x.fits(), 1);
    }

    private static void unheard() {
        RingingRock x = new RingingRock();
        Due.tell(x, "rubble 0 to 35; hole 6 to 10; hole 19 to 23; hole 30 to 34");
        // From 0 by 5, 11, 17, 12, 18, 24 and 29 to 35 it is 20 steps.
        due.is("a long way", x.time(0, 35), 120);
        x.book(0, 35, 99);
        due.is("99 and more is 99", x.wrong(), Due.NONE);
        x.book(0, 34, 99);
        due.is("none is 99", x.wrong(), Due.NONE);
        x.burn();
        x.book(0, 35, 98);
        due.is("98 is none of these", x.wrong(), 0);
        x.burn();
        // 15 steps are 90, 16 are 96, 17 are 102; one of rock of 17 makes it 98, one of water 99.
        x.book(0, 26, 96);
        x.book(0, 27, 99);
        due.is("102 is 99", x.wrong(), Due.NONE);
        x.stuff(1, 3);
        due.is("93 isn't 96", x.wrong(), 0);
        x.burn();
        x.book(0, 27, 99);
        due.is("just 99", x.wrong(), Due.NONE);
        x.stuff(1, 0);
        due.is("98 isn't 99", x.wrong(), 0);
        x.burn();
        x.book(0, 27, 98);
        due.is("just 98", x.wrong(), Due.NONE);
    }

    private static void maps() {
        RingingRock x = new RingingRock();
        due.is("one map", x.map(0), 0);
        due.is("one map", x.map(1), 0);
        due.is("one map", x.map(2), 0);
        x.unsure(2);
        x.unsure(1);
        due.is("the least", x.map(0), 0);
        due.is("the greatest", x.map(2), 24);
        x.stuff(1, 4);
        x.stuff(2, 3);
        due.is("that of now", x.map(1), 23);
        x.book(0, 1, 3);
        // 1 must be water: 15 to 19; 2 stays so with 18.
        due.is("the least", x.map(0), 15);
        due.is("the nearest", x.map(1), 18);
        due.is("the greatest", x.map(2), 19);
        x.book(1, 2, 6);
        due.is("rubble and water", x.map(0), 16);
        due.is("rubble and water", x.map(1), 16);
        due.is("rubble and water", x.map(2), 16);
        x.burn();
        // 1 and 2 together by 5: water and rock, rock and water.
        x.book(0, 2, 5);
        due.is("2 of water, 1 of rock", x.map(0), 3);
        due.is("one other than now", x.map(1), 3);
        x.stuff(1, 1);
        x.stuff(2, 1);
        due.is("of several the least", x.map(1), 3);
        due.is("2 of rock, 1 of water", x.map(2), 15);
        x.book(0, 2, 7);
        for (int what = 0; what < 3; what++) {
            due.is("none fits", x.map(what), Due.NONE);
        }
        allOther();
        due.is("what 3", x.map(3), Due.BEYOND);
        due.is("what -1", x.map(-1), Due.BEYOND);
    }

    private static void allOther() {
        RingingRock x = new RingingRock();
        Due.tell(x, "unsure 1; unsure 2; unsure 3; unsure 4");
        Due.tell(x, "heard 0 1 1; heard 1 2 1; heard 2 3 1; heard 3 4 1");
        due.is("all four are other than now", x.map(1), 624);
        due.is("there is but one", x.fits(), 1);
        x.lays(624);
        due.is("none is other than now", x.map(1), 624);
    }

    private static void may() {
        RingingRock x = new RingingRock();
        due.is("none is unsure", x.may(0), Due.BEYOND);
        x.unsure(1);
        x.unsure(2);
        due.is("any", x.may(0), 31);
        due.is("any", x.may(1), 31);
        x.book(0, 1, 2);
        x.book(0, 2, 4);
        due.is("map 0 alone", x.may(0), 1);
        due.is("map 0 alone", x.may(1), 1);
        x.burn();
        x.book(0, 2, 5);
        // Also round 1 by 6, 7 and 8 it is 8 at least.
        due.is("rock, water", x.may(0), 1 | 8);
        due.is("water, rock", x.may(1), 1 | 8);
        x.book(0, 1, 2);
        due.is("rock", x.may(0), 1);
        due.is("water", x.may(1), 8);
        x.book(0, 0, 1);
        due.is("none fits", x.may(0), 0);
        due.is("i -1", x.may(-1), Due.BEYOND);
        due.is("i 2", x.may(2), Due.BEYOND);
    }

    private static void lays() {
        RingingRock x = new RingingRock();
        due.is("no cell is unsure", x.lays(0), Due.STATE);
        due.is("beyond ahead of state", x.lays(1), Due.BEYOND);
        due.is("map -1", x.lays(-1), Due.BEYOND);
        x.stuff(35, 3);
        x.stuff(0, 1);
        x.unsure(35);
        x.unsure(0);
        x.unsure(7);
        due.is("map by which it was", x.lays(2 + 5 * 4 + 25 * 1), 3 + 5);
        due.is("a hole", x.cells(2), 1L << 35);
        due.is("iron", x.cells(4), 1);
        due.is("rubble", x.cells(1), 1 << 7);
        due.is("and back", x.lays(124), 47);
        due.is("map 125", x.lays(125), Due.BEYOND);
        due.is("all iron", x.cells(4), Due.set(0, 7, 35));
        due.is("unsure cells stay", x.count(4), 3);
        x.unsure(8);
        due.is("four digits", x.lays(624), 124);
        due.is("map 625", x.lays(625), Due.BEYOND);
        due.is("four digits", x.lays(0), 624);
        due.is("all rock", x.cells(0), ALL);
    }

    private static void asks() {
        RingingRock x = new RingingRock();
        due.is("no crews", x.asks(0), Due.NONE);
        x.crew(5, 30);
        due.is("one crew", x.asks(0), 0);
        x.crew(6, 2);
        due.is("of several the least", x.asks(0), 0);
        x.unsure(1);
        // From 2 to 0: 4, 8, none through it, 5, 3; from 30 to 0 always 10.
        due.is("the one whose time tells", x.asks(0), 1);
        x.change(0, 1, 1);
        // From 1 to 0: 2, or none as it is a hole.
        due.is("most unlike times", x.asks(0), 1);
        x.change(1, 1, 35);
        due.is("none counts as one, too", x.asks(0), 0);
        x.book(2, 0, 4);
        due.is("only maps that fit", x.asks(0), 0);
        x.book(0, 0, 1);
        due.is("none fits", x.asks(0), Due.NONE);
        asksByLongTimes();
        due.is("cell 36", x.asks(36), Due.BEYOND);
        due.is("cell -1", x.asks(-1), Due.BEYOND);
        asksByTimesOfFits();
    }

    private static void asksByLongTimes() {
        RingingRock x = new RingingRock();
        Due.tell(x, "rubble 0 to 35; hole 6 to 10; hole 19 to 23; hole 30 to 34; crew at 1; crew at 29; unsure 3");
        // From 1 to 35: 114, 110, 111, 109, none; from 29 to 35: 6.
        due.is("long times", x.asks(35), 0);
        x.change(0, 1, 29);
        x.change(1, 1, 1);
        due.is("long times", x.asks(35), 1);
        x.crew(0, 29);
        due.is("long times", x.asks(35), 1);
    }

    private static void asksByTimesOfFits() {
        RingingRock x = new RingingRock();
        Due.tell(x, "crew at 2; crew at 33; unsure 1; unsure 34");
        // To 0 from 2: 4, 8, 5, 3; to 0 from 33 as ever. To 35 from 33: 4, 8, 5, 3.
        due.is("to 0", x.asks(0), 0);
        due.is("to 35", x.asks(35), 1);
        x.book(0, 1, 2);
        due.is("1 is known by the books", x.asks(0), 0);
        due.is("34 is not", x.asks(35), 1);
        x.change(0, 1, 33);
        due.is("both in one cell", x.asks(35), 0);
        x.change(0, 2, 1);
        x.change(0, 0, 5);
        due.is("what it carries is all one", x.asks(35), 0);
    }

    private static void dig() {
        RingingRock x = new RingingRock();
        due.is("to itself", x.dig(3, 3), 1);
        due.is("all of rock", x.dig(0, 35), 11);
        x.stuff(3, 2);
        due.is("a hole to itself", x.dig(3, 3), 0);
        due.is("into a hole", x.dig(2, 3), 1);
        due.is("out of a hole", x.dig(3, 2), 1);
        due.is("through a hole", x.dig(2, 4), 2);
        x.stuff(14, 3);
        due.is("water", x.dig(14, 0), Due.NONE);
        due.is("to water", x.dig(0, 14), Due.NONE);
        due.is("beside water", x.dig(8, 0), Due.NONE);
        due.is("to beside water", x.dig(0, 20), Due.NONE);
        due.is("beside water, to itself", x.dig(13, 13), Due.NONE);
        due.is("round it: 12, 6, 7, 1, 2, 3, 9, 10, 16, the 3 a hole", x.dig(12, 16), 8);
        x.stuff(1, 4);
        x.stuff(6, 1);
        due.is("each stuff costs as much", x.dig(12, 16), 8);
        x.stuff(35, 3);
        due.is("water in the corner", x.dig(0, 34), Due.NONE);
        due.is("not beside it, by a hole", x.dig(0, 28), 8);
        due.is("from -1", x.dig(-1, 0), Due.BEYOND);
        due.is("from 36", x.dig(36, 0), Due.BEYOND);
        due.is("to -1", x.dig(0, -1), Due.BEYOND);
        due.is("to 36", x.dig(0, 36), Due.BEYOND);
    }

    private static void digByHoles() {
        RingingRock x = new RingingRock();
        Due.tell(x, "hole 1 to 5; hole 11; hole 17; hole 16; hole 15; hole 35");
        due.is("a long way by holes", x.dig(0, 15), 1);
        due.is("from hole to hole", x.dig(1, 15), 0);
        due.is("to behind the holes", x.dig(0, 14), 2);
        due.is("from hole to hole over rock", x.dig(1, 35), 2);
        due.is("edges are not beside one another", x.dig(12, 17), 3);
        Due.tell(x, "water 6 to 8; water 10");
        due.is("holes beside water", x.dig(2, 3), Due.NONE);
        due.is("round the wet hole 16", x.dig(15, 17), 3);
        due.is("a hole that is dry", x.dig(15, 15), 0);
    }

    private static void safe() {
        RingingRock x = new RingingRock();
        due.is("as dig", x.safe(0, 35), 11);
        due.is("to itself", x.safe(4, 4), 1);
        x.unsure(14);
        due.is("it may be water", x.safe(14, 14), Due.NONE);
        due.is("beside it", x.safe(8, 0), Due.NONE);
        due.is("round it", x.safe(12, 16), 9);
        due.is("dig knows nothing of it", x.dig(12, 16), 5);
        x.book(13, 14, 1);
        due.is("it is iron", x.safe(12, 16), 5);
        x.stuff(14, 2);
        due.is("by the cost as it is", x.safe(12, 16), 4);
        x.stuff(14, 3);
        due.is("nor as it is", x.safe(12, 16), 9);
        x.book(0, 0, 1);
        due.is("none fits", x.safe(12, 16), Due.NONE);
        due.is("from -1", x.safe(-1, 0), Due.BEYOND);
        due.is("from 36", x.safe(36, 0), Due.BEYOND);
        due.is("to -1", x.safe(0, -1), Due.BEYOND);
        due.is("to 36", x.safe(0, 36), Due.BEYOND);
    }

    private static void ways() {
        RingingRock x = new RingingRock();
        due.is("all", x.ways(35), ALL);
        x.stuff(3, 2);
        due.is("holes, too", x.ways(0), ALL);
        Due.tell(x, "water 12 to 17");
        due.is("above", x.ways(0), 63);
        due.is("above", x.ways(5), 63);
        due.is("below", x.ways(35), ALL & ~((1L << 24) - 1));
        due.is("beside water", x.ways(6), 0);
        due.is("in water", x.ways(12), 0);
        due.is("from -1", x.ways(-1), Due.BEYOND);
        due.is("from 36", x.ways(36), Due.BEYOND);
        x = new RingingRock();
        x.stuff(11, 3);
        due.is("water at an edge wets none of the next row", x.ways(0), ALL & ~Due.set(11, 5, 10, 17));
    }
}
