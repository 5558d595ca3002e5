/** Promises 9 to 23: sound, and who knocks back. */
public final class SoundTest {

    private static final Due due = new Due();
    private static final long ALL = (1L << 36) - 1;

    public static void main(String[] args) {
        times();
        heard();
        reach();
        hears();
        echoes();
        chords();
        last();
        manyAndSilent();
        lag();
        apart();
        from();
        middle();
        kindFor();
        place();
        due.end();
    }

    private static void times() {
        RingingRock x = new RingingRock();
        due.is("to itself", x.time(17, 17), 0);
        due.is("through rock", x.time(0, 35), 20);
        due.is("no way round the edge", x.time(5, 6), 12);
        due.is("no way round the edge", x.time(6, 5), 12);
        x.stuff(1, 1);
        due.is("into rubble", x.time(0, 1), 6);
        due.is("out of rubble", x.time(1, 0), 2);
        due.is("round rubble", x.time(0, 2), 8);
        x.stuff(6, 4);
        x.stuff(7, 4);
        x.stuff(8, 4);
        due.is("through iron", x.time(0, 2), 5);
        due.is("through iron and back", x.time(2, 0), 5);
        due.is("into iron", x.time(0, 8), 3);
        x.stuff(35, 3);
        due.is("into water", x.time(34, 35), 3);
        due.is("out of water", x.time(35, 34), 2);
        x.stuff(14, 2);
        due.is("from a hole", x.time(14, 0), Due.NONE);
        due.is("to a hole", x.time(0, 14), Due.NONE);
        due.is("a hole to itself", x.time(14, 14), Due.NONE);
        due.is("round a hole, by two of iron", x.time(13, 15), 6);
        x.stuff(4, 2);
        x.stuff(11, 2);
        due.is("shut in", x.time(5, 0), Due.NONE);
        due.is("shut in, to itself", x.time(5, 5), 0);
        due.is("cell -1", x.time(-1, 0), Due.BEYOND);
        due.is("cell 36", x.time(0, 36), Due.BEYOND);
        due.is("the longest way", snake().time(0, 35), 120);
    }

    /** Rubble in a way that winds through all rows, between holes. */
    private static RingingRock snake() {
        RingingRock x = new RingingRock();
        Due.tell(x, "rubble 0 to 35; hole 6 to 10; hole 19 to 23; hole 30 to 34");
        // 0..5, 11, 17..12, 18, 24..29, 35: 20 cells behind the first.
        return x;
    }

    private static void heard() {
        RingingRock x = new RingingRock();
        x.crew(0, 0);
        x.change(0, 2, 5);
        due.is("just carried", x.heard(0, 35), 20);
        x.change(0, 2, 4);
        due.is("carried", x.heard(0, 33), 16);
        due.is("not carried", x.heard(0, 34), Due.NONE);
        x.change(0, 0, 2);
        x.change(0, 2, 1);
        due.is("a drill starts later", x.heard(0, 6), 3);
        due.is("a drill starts later, it carries by time alone", x.heard(0, 21), 13);
        due.is("a drill of force 1", x.heard(0, 22), Due.NONE);
        x.change(0, 0, 3);
        due.is("a bell of force 1", x.heard(0, 22), 16);
        due.is("a bell of force 1", x.heard(0, 23), Due.NONE);
        x.change(0, 0, 5);
        due.is("a mute one where it is", x.heard(0, 0), 2);
        due.is("a mute one beside", x.heard(0, 1), Due.NONE);
        x.stuff(0, 2);
        due.is("in a hole", x.heard(0, 0), Due.NONE);
        due.is("crew 1", x.heard(1, 0), Due.BEYOND);
        due.is("crew -1", x.heard(-1, 0), Due.BEYOND);
        due.is("cell 36", x.heard(0, 36), Due.BEYOND);
        due.is("cell -1", x.heard(0, -1), Due.BEYOND);
    }

    private static void reach() {
        RingingRock x = new RingingRock();
        x.crew(0, 0);
        x.change(0, 2, 1);
        due.is("two steps", x.reach(0), Due.set(0, 1, 2, 6, 7, 12));
        x.stuff(1, 2);
        due.is("round a hole", x.reach(0), Due.set(0, 6, 7, 12));
        x.change(0, 0, 5);
        due.is("a mute one", x.reach(0), Due.set(0));
        x.change(0, 1, 1);
        due.is("in a hole", x.reach(0), 0);
        x.change(0, 0, 3);
        x.change(0, 1, 35);
        x.change(0, 2, 20);
        due.is("a bell", x.reach(0), ALL & ~Due.set(1));
        due.is("crew 1", x.reach(1), Due.BEYOND);
        due.is("crew -1", x.reach(-1), Due.BEYOND);
    }

    private static void hears() {
        RingingRock x = new RingingRock();
        due.is("crew 0", x.hears(0), Due.BEYOND);
        Due.tell(x, "rubble 0 to 35;hammer force 20;bell at 35 force 20;soft at 5;deaf at 6;mute at 5;crew at 7");
        // Rubble: 60 from 0 to 35, 54 to 34, 30 to 5.
        due.is("a crew hears by 60", x.hears(0), Due.set(3, 5));
        due.is("a bell hears by 40: none", x.hears(1), 0);
        x.change(1, 1, 23);
        // From 0 to 23 it is 8 steps: 48.
        due.is("a bell at 23 hears none", x.hears(1), 0);
        x.change(0, 1, 6);
        // From 6 to 23: 7 steps, 42.
        due.is("a bell hears none by 42", x.hears(1), 0);
        x.change(0, 1, 7);
        due.is("a bell hears by 36", x.hears(1), Due.set(0));
        x.stuff(8, 4);
        x.stuff(9, 4);
        x.change(0, 1, 0);
        // 0 7 8 9 .. 23: two steps of iron, six of rubble, 38.
        due.is("a bell hears by 38", x.hears(1), Due.set(0));
        due.is("a deaf one hears none", x.hears(3), 0);
        due.is("crew 6", x.hears(6), Due.BEYOND);
        hearsByHalf();
        hearsJust();
    }

    private static void hearsByHalf() {
        RingingRock x = new RingingRock();
        Due.tell(x, "rubble 0 to 35;hammer force 20;soft at 5;mute at 5;crew at 5;deaf at 5");
        due.is("a soft one hears by 30, and what is beside it", x.hears(1), Due.set(0, 2, 3, 4));
        due.is("a mute one hears by 30", x.hears(2), Due.set(0, 1, 3, 4));
        x.change(0, 0, 2);
        due.is("a soft one doesn't hear by 31", x.hears(1), Due.set(2, 3, 4));
        due.is("a crew hears by 31", x.hears(3), Due.set(0, 1, 2, 4));
        due.is("a deaf one hears nothing", x.hears(4), 0);
    }

    private static void hearsJust() {
        RingingRock x = new RingingRock();
        Due.tell(x, "rubble 0 to 35;hammer force 20;crew at 35 force 2;bell at 34");
        due.is("by 60", x.hears(1), Due.set(0, 2));
        x.change(0, 0, 2);
        due.is("not by 61", x.hears(1), Due.set(2));
        x.change(0, 0, 1);
        x.change(2, 1, 16);
        x.change(2, 0, 3);
        // 0 to 16: 6 steps, 36; with one of water 33.
        due.is("a bell by 36", x.hears(2), Due.set(0));
        x.change(2, 1, 17);
        x.stuff(17, 3);
        due.is("a bell by 39", x.hears(2), Due.set(0));
        x.change(0, 0, 2);
        due.is("a bell by 40", x.hears(2), Due.set(0));
        x.change(0, 0, 3);
        due.is("a bell not by 41", x.hears(2), 0);
    }

    private static void echoes() {
        RingingRock x = new RingingRock();
        x.crew(0, 0);
        x.stuff(14, 2);
        // Beside 14: 8, 13, 15, 20. From 0 to 8 and to 13: 6.
        due.is("back to where it is", x.echo(0, 0, 14), 13);
        due.is("to behind the hole", x.echo(0, 20, 14), 11);
        x.change(0, 2, 3);
        due.is("12 are carried, 13 are not", x.echo(0, 0, 14), Due.NONE);
        due.is("just carried", x.echo(0, 1, 14), 11);
        x.change(0, 0, 4);
        x.change(0, 2, 6);
        due.is("what it starts later isn't carried", x.echo(0, 1, 14), 13);
        x.change(0, 0, 2);
        x.change(0, 2, 1);
        due.is("13 are just carried", x.echo(0, 0, 14), 14);
        x.change(0, 2, 6);
        x.change(0, 0, 5);
        due.is("of a mute one", x.echo(0, 8, 14), Due.NONE);
        x.change(0, 0, 0);
        due.is("no hole", x.echo(0, 0, 15), Due.STATE);
        due.is("in a hole", x.echo(0, 14, 14), Due.NONE);
        x.change(0, 1, 14);
        due.is("from a hole", x.echo(0, 0, 14), Due.NONE);
        x.change(0, 1, 0);
        x.stuff(1, 1);
        due.is("into rubble and out of it", x.echo(0, 1, 14), 15);
        due.is("crew 1", x.echo(1, 0, 14), Due.BEYOND);
        due.is("crew -1", x.echo(-1, 0, 14), Due.BEYOND);
        due.is("cell 36", x.echo(0, 36, 14), Due.BEYOND);
        due.is("cell -1", x.echo(0, -1, 14), Due.BEYOND);
        due.is("hole 36", x.echo(0, 0, 36), Due.BEYOND);
        due.is("hole -1", x.echo(0, 0, -1), Due.BEYOND);
        due.is("beyond ahead of state", x.echo(1, 0, 15), Due.BEYOND);
        echoOfHoleInCorner();
    }

    private static void echoOfHoleInCorner() {
        RingingRock x = new RingingRock();
        x.crew(1, 4);
        x.stuff(5, 2);
        due.is("a hole in a corner, no way round the edge", x.echo(0, 6, 5), 11);
        x.stuff(4, 2);
        x.stuff(11, 2);
        x.change(0, 1, 0);
        due.is("a hole among holes", x.echo(0, 0, 5), Due.NONE);
        due.is("a hole beside it", x.echo(0, 0, 4), 13);
        x.stuff(1, 2);
        due.is("from where it is and back", x.echo(0, 0, 1), 1);
    }

    private static void chords() {
        RingingRock x = new RingingRock();
        x.crew(0, 0);
        due.is("no holes", x.chord(0, 0, 0), Due.NONE);
        x.stuff(0, 2);
        x.change(0, 1, 6);
        due.is("of hole 0", x.chord(0, 6, 0), 1);
        due.is("of hole 0 alone", x.chord(0, 6, 1), Due.NONE);
        x.stuff(0, 0);
        x.change(0, 1, 0);
        x.stuff(35, 2);
        x.change(0, 2, 20);
        x.stuff(2, 2);
        x.stuff(12, 2);
        x.stuff(4, 2);
        // 2 and 12: 1 and back, 5 both; 4: over 3, 0 1 7 8 9 3 and back: 21; 10 as well: 4 steps
        // .. 35: 9 steps there and back, 37.
        due.is("the least, of two holes once", x.chord(0, 0, 0), 5);
        due.is("the next", x.chord(0, 0, 1), 21);
        due.is("the third", x.chord(0, 0, 2), 37);
        due.is("no fourth", x.chord(0, 0, 3), Due.NONE);
        x.change(0, 0, 2);
        due.is("each by what it starts later", x.chord(0, 0, 2), 38);
        due.is("i 35", x.chord(0, 0, 35), Due.NONE);
        due.is("i 36", x.chord(0, 0, 36), Due.BEYOND);
        due.is("i -1", x.chord(0, 0, -1), Due.BEYOND);
        due.is("crew 1", x.chord(1, 0, 0), Due.BEYOND);
        due.is("crew -1", x.chord(-1, 0, 0), Due.BEYOND);
        due.is("cell 36", x.chord(0, 36, 0), Due.BEYOND);
        due.is("cell -1", x.chord(0, -1, 0), Due.BEYOND);
        due.is("in a hole", x.chord(0, 2, 0), Due.NONE);
    }

    private static void last() {
        RingingRock x = new RingingRock();
        x.crew(0, 14);
        due.is("its own", x.last(0, 14), Due.STATE);
        due.is("of two the least", x.last(0, 7), 8);
        due.is("of two the least", x.last(0, 21), 15);
        due.is("beside", x.last(0, 20), 14);
        due.is("in the row", x.last(0, 16), 15);
        x.stuff(15, 1);
        due.is("round rubble", x.last(0, 21), 20);
        x.stuff(13, 2);
        due.is("never a hole", x.last(0, 12), 6);
        due.is("not heard", x.last(0, 13), Due.NONE);
        x.change(0, 2, 1);
        due.is("not carried", x.last(0, 35), Due.NONE);
        x.stuff(14, 2);
        due.is("its own, a hole", x.last(0, 14), Due.NONE);
        x.change(0, 1, 6);
        due.is("cell 0 is the least", x.last(0, 1), 0);
        due.is("crew 1", x.last(1, 0), Due.BEYOND);
        due.is("crew -1", x.last(-1, 0), Due.BEYOND);
        due.is("cell 36", x.last(0, 36), Due.BEYOND);
        due.is("cell -1", x.last(0, -1), Due.BEYOND);
    }

    private static void manyAndSilent() {
        RingingRock x = new RingingRock();
        due.is("no crews", x.many(3), 0);
        due.is("no crews", x.many(0), 0);
        due.is("all is silent", x.silent(), ALL);
        Due.tell(x, "crew force 1; mute at 2; soft at 35 force 1; deaf at 1 force 1");
        due.is("the first, the mute and the deaf one", x.many(2), 3);
        due.is("one", x.many(12), 1);
        due.is("a deaf one is heard", x.many(9), 0);
        due.is("a deaf one is heard", x.many(3), 1);
        due.is("a soft one by 2", x.many(34), 1);
        due.is("a soft one not by 4", x.many(33), 0);
        due.is("silent", x.silent(), ALL & ~Due.set(0, 1, 2, 6, 7, 12, 3, 8, 13, 35, 34, 29));
        x.stuff(20, 2);
        due.is("a hole is not silent", x.silent(), ALL & ~Due.set(0, 1, 2, 6, 7, 12, 3, 8, 13, 35, 34, 29, 20));
        due.is("in a hole", x.many(20), 0);
        due.is("cell 36", x.many(36), Due.BEYOND);
        due.is("cell -1", x.many(-1), Due.BEYOND);
    }

    private static void lag() {
        RingingRock x = new RingingRock();
        Due.tell(x, "crew at 0; drill at 5; mute at 14");
        due.is("by how much later", x.lag(0, 1, 1), 7);
        due.is("earlier", x.lag(1, 0, 1), -7);
        due.is("at the one's own", x.lag(0, 1, 0), 11);
        due.is("one isn't heard", x.lag(0, 2, 0), Due.NONE);
        due.is("the first isn't heard", x.lag(2, 0, 0), Due.NONE);
        due.is("where the mute one is", x.lag(0, 2, 14), -6);
        due.is("one and the same", x.lag(1, 1, 0), Due.BEYOND);
        due.is("crew 3", x.lag(0, 3, 0), Due.BEYOND);
        due.is("crew -1", x.lag(-1, 0, 0), Due.BEYOND);
        due.is("cell 36", x.lag(0, 1, 36), Due.BEYOND);
        due.is("cell -1", x.lag(0, 1, -1), Due.BEYOND);
    }

    private static void apart() {
        RingingRock x = new RingingRock();
        int all = 0x7fffffff;
        Due.tell(x, "mute at 0; mute at 1");
        due.is("never both", x.apart(0, 1), all);
        x.change(1, 1, 0);
        due.is("both in one cell", x.apart(0, 1), all & ~1);
        x.change(0, 0, 0);
        x.change(0, 2, 1);
        due.is("the mute one is heard 2 later", x.apart(0, 1), all);
        due.is("2 later", x.apart(1, 0), all & ~4);
        x.change(1, 0, 0);
        x.change(1, 1, 2);
        x.change(1, 2, 1);
        // Cells of both: 0 (0, 4), 1 (2, 2), 2 (4, 0), 7 (4, 4).
        due.is("by 0 and by 4", x.apart(0, 1), all & ~1 & ~16);
        apartUpTo30();
        due.is("one and the same", x.apart(0, 0), Due.BEYOND);
        due.is("crew 2", x.apart(0, 2), Due.BEYOND);
        due.is("crew -1", x.apart(-1, 0), Due.BEYOND);
    }

    private static void apartUpTo30() {
        RingingRock x = new RingingRock();
        Due.tell(x, "rubble 0 to 5; hole 6 to 11; hammer force 20; mute at 5");
        // In 5 alone: 30 and 2.
        due.is("by 28", x.apart(0, 1), 0x7fffffff & ~(1 << 28));
        x.change(1, 0, 0);
        x.change(1, 2, 1);
        due.is("by 30", x.apart(0, 1), 0x7fffffff & ~(1 << 30));
        x.change(0, 0, 2);
        due.is("31 is none of them", x.apart(0, 1), 0x7fffffff);
    }

    private static void from() {
        RingingRock x = new RingingRock();
        Due.tell(x, "mute at 0; deaf at 5");
        // In column c it is c steps to the one, 5 less c to the other.
        due.is("by 10", x.from(0, 1, 10), Due.set(0, 6, 12, 18, 24, 30));
        due.is("by -2", x.from(0, 1, -2), Due.set(3, 9, 15, 21, 27, 33));
        due.is("by 2, the other way", x.from(1, 0, 2), Due.set(3, 9, 15, 21, 27, 33));
        due.is("by 1", x.from(0, 1, 1), 0);
        x.stuff(0, 1);
        // It comes into 0 by 6, but for 0 itself.
        due.is("into rubble", x.from(0, 1, 10), Due.set(0));
        due.is("into rubble", x.from(0, 1, 6), Due.set(6, 12, 18, 24, 30));
        x.stuff(12, 2);
        // Round the hole 18 has two steps more to 0, but no more to 5.
        due.is("round a hole", x.from(0, 1, 6), Due.set(6));
        x.stuff(5, 2);
        due.is("a crew in a hole", x.from(0, 1, 0), 0);
        due.is("u 60", x.from(0, 1, 60), 0);
        due.is("u -60", x.from(0, 1, -60), 0);
        due.is("u 61", x.from(0, 1, 61), Due.BEYOND);
        due.is("u -61", x.from(0, 1, -61), Due.BEYOND);
        due.is("one and the same", x.from(1, 1, 0), Due.BEYOND);
        due.is("crew 2", x.from(0, 2, 0), Due.BEYOND);
        due.is("crew -1", x.from(-1, 0, 0), Due.BEYOND);
        x = new RingingRock();
        Due.tell(x, "rubble 0 to 35; crew at 0; crew at 35");
        due.is("by 60", x.from(0, 1, 60), Due.set(0));
        due.is("by -60", x.from(0, 1, -60), Due.set(35));
    }

    private static void middle() {
        RingingRock x = new RingingRock();
        due.is("no crews", x.middle(), Due.BEYOND);
        x.crew(5, 9);
        x.stuff(8, 4);
        due.is("of one", x.middle(), 9);
        x.stuff(8, 0);
        x.crew(5, 11);
        due.is("between two", x.middle(), 10);
        x.stuff(10, 2);
        // Round the hole it is 3 steps to the farther one: 3, 4, 15, 16 and others.
        due.is("round a hole, of several the least", x.middle(), 4);
        x.stuff(4, 1);
        due.is("round rubble", x.middle(), 16);
        x.change(1, 1, 10);
        due.is("a crew in a hole", x.middle(), Due.NONE);
        x = new RingingRock();
        Due.tell(x, "hole 1; hole 6; crew at 0; crew at 35");
        due.is("none is come to from all", x.middle(), Due.NONE);
        x.change(1, 1, 0);
        due.is("shut in together", x.middle(), 0);
    }

    private static void kindFor() {
        RingingRock x = new RingingRock();
        due.is("no crew", x.kindFor(0), Due.BEYOND);
        x.crew(6, 0);
        due.is("no others", x.kindFor(0), 0);
        Due.tell(x, "crew at 35; soft at 30; deaf at 1; bell at 1");
        // All rock: 20 to 35, 10 to 30.
        x.change(0, 2, 1);
        due.is("a hammer carries 8, a drill 13, a bell 14: as a drill", x.kindFor(0), 2);
        x.change(0, 2, 2);
        due.is("a hammer carries 16, a drill 21", x.kindFor(0), 2);
        x.change(0, 2, 3);
        due.is("a crew carries 12, a hammer 24", x.kindFor(0), 1);
        x.change(0, 2, 5);
        due.is("a crew carries 20", x.kindFor(0), 0);
        due.is("it stays as it was", x.of(0, 0), 6);
        x.change(1, 2, 1);
        x.change(3, 1, 35);
        x.change(2, 1, 35);
        due.is("also by crew 0, were it none that is deaf", x.kindFor(1), 0);
        x.change(4, 1, 0);
        x.change(0, 0, 0);
        // 20 to crew 0 and to the bell beside it: as a hammer of force 3 24.
        x.change(1, 2, 3);
        due.is("by crew 0", x.kindFor(1), 1);
        due.is("crew 5", x.kindFor(5), Due.BEYOND);
        due.is("crew -1", x.kindFor(-1), Due.BEYOND);
        kindForStarts();
    }

    private static void kindForStarts() {
        RingingRock x = new RingingRock();
        Due.tell(x, "deaf at 0; crew at 35 force 3");
        due.is("none hears it as any", x.kindFor(1), 0);
        x.change(0, 0, 0);
        due.is("crew 0 alone hears it by 20", x.kindFor(1), 1);
        x = new RingingRock();
        Due.tell(x, "rubble 0 to 35; crew; soft at 5; crew at 35; soft at 31");
        x.change(0, 2, 8);
        // 30 to 5, 60 to 35, 36 to 31: a crew carries 32, a hammer 64, a drill comes too late.
        due.is("as a hammer", x.kindFor(0), 1);
        x.change(0, 2, 7);
        // A crew carries 28, a hammer 56, a drill 61, a bell 68: both of them come to 35 by 61 and more.
        due.is("as a hammer by 30", x.kindFor(0), 1);
    }

    private static void place() {
        RingingRock x = new RingingRock();
        due.is("no crew", x.place(0), Due.BEYOND);
        x.crew(0, 35);
        x.change(0, 2, 1);
        due.is("two steps: 13 cells", x.place(0), 14);
        due.is("it stays where it is", x.of(0, 1), 35);
        x.stuff(14, 2);
        due.is("round a hole", x.place(0), 21);
        x.change(0, 0, 5);
        due.is("a mute one", x.place(0), 0);
        x.stuff(0, 2);
        due.is("a mute one, not in a hole", x.place(0), 1);
        Due.tell(x, "hole 0 to 35");
        due.is("all are holes", x.place(0), 0);
        due.is("crew 1", x.place(1), Due.BEYOND);
        due.is("crew -1", x.place(-1), Due.BEYOND);
    }
}
