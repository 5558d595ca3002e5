import java.util.ArrayList;
import java.util.List;

/**
 * All that the face tells of an object but status(): two that are alike tell the same. The object is
 * used up by it; it takes few enough calls that with those which made the object they stay under 512.
 */
final class Portrait {

    private final RingingRock x;
    private final List<String> told = new ArrayList<>();

    private Portrait(RingingRock x) {
        this.x = x;
    }

    static List<String> of(RingingRock x) {
        Portrait portrait = new Portrait(x);
        portrait.all();
        return portrait.told;
    }

    /** What an earlier part tells is told ahead of what a later part changes. */
    private void all() {
        plain();
        sheetsAndTheirTimes();
        books();
        unsureCells();
        tell("text");
        plain();
        tell("undo");
        plain();
        tell("wrong");
        unsureCells();
        numbersOfSheets();
    }

    private void tell(String name, int... a) {
        told.add(Edges.label(name, a) + " = " + Edges.call(x, name, a));
    }

    private void plain() {
        for (int what = 0; what < 8; what++) {
            tell("count", what);
        }
        for (int stuff = 1; stuff < 5; stuff++) {
            tell("cells", stuff);
        }
        int crews = x.count(1);
        for (int crew = 0; crew < crews; crew++) {
            for (int what = 0; what < 3; what++) {
                tell("of", crew, what);
            }
        }
        for (int spot = 0; spot < 10; spot++) {
            tell("as", spot, 0);
        }
    }

    /** Which are missing, which are of as many bits, about how many numbers they have, what of them is heard. */
    private void sheetsAndTheirTimes() {
        int crews = x.count(1);
        for (int s = 0; s < 4; s++) {
            for (int other = 0; other < s; other++) {
                tell("copy", s, 0, other, 0, 0);
            }
            for (int n : new int[] {0, 1, 2, 5, 6, 40}) {
                tell("copy", s, 0, s, 0, n);
            }
            for (int crew = 0; crew < crews; crew++) {
                tell("judge", s, crew);
            }
        }
    }

    /** By a cell that becomes a hole the first in the books that needs it is wrong. Of two cells beside one another one will do. */
    private void books() {
        tell("wrong");
        for (int c = 0; c < 36; c++) {
            if ((c / 6 + c) % 2 == 0) {
                int was = x.stuff(c, 2);
                tell("wrong");
                x.stuff(c, was);
            }
        }
    }

    private void unsureCells() {
        for (int map = 4; map < 625; map *= 5) {
            tell("lays", map);
            tell("cells", 4);
        }
    }

    private void numbersOfSheets() {
        for (int s = 0; s < 4; s++) {
            for (int round = 0; round < 2; round++) {
                tell("load", s);
                for (int stuff = 1; stuff < 5; stuff++) {
                    tell("cells", stuff);
                }
                x.copy(s, 36, s, 0, 4);
            }
        }
    }
}
