import java.util.ArrayList;
import java.util.List;

/**
 * All that can be seen of an object but status(), in several views: what a view does to see it (heads
 * undone, images restored, the tape read) leaves the object of no more use, so each is of a new one.
 */
final class Views {
    static final int MANY = 6;

    private final ThreeRiddles x;
    private final List<Integer> seen = new ArrayList<>();

    private Views(ThreeRiddles x) {
        this.x = x;
    }

    static List<Integer> of(ThreeRiddles x, int view) {
        Views views = new Views(x);
        switch (view) {
            case 0 -> views.look();
            case 1 -> views.foretold();
            case 2 -> views.rows();
            case 3 -> views.acts();
            case 4 -> views.images();
            default -> views.tape();
        }
        return views.seen;
    }

    private void look() {
        for (int what = 0; what < 10; what++) {
            seen.add(x.count(what));
        }
        seen.add(x.fault());
        for (int i = 0; i < 8; i++) {
            seen.add(x.trace(i));
            seen.add(x.thing(i));
        }
        for (int riddle = 0; riddle < 6; riddle++) {
            seen.add(x.kind(riddle));
            for (int what = 0; what < 7; what++) {
                seen.add(x.riddle(riddle, what));
            }
        }
        for (int suitor = 0; suitor < 4; suitor++) {
            for (int what = 0; what < 4; what++) {
                seen.add(x.suitor(suitor, what));
            }
            for (int riddle = 0; riddle < 6; riddle++) {
                seen.add(x.says(suitor, riddle));
            }
        }
    }

    private void foretold() {
        seen.add(x.beats());
        for (int what = 0; what < 2; what++) {
            for (int kind = 1; kind < 6; kind++) {
                seen.add(x.hard(kind, what));
                for (int suitor = 0; suitor < 4; suitor++) {
                    seen.add(x.riddleFor(suitor, kind, what));
                }
            }
            for (int suitor = 0; suitor < 4; suitor++) {
                seen.add(x.chance(suitor, what));
                seen.add(x.toBuy(suitor, what));
            }
            for (int set = 0; set < 64; set++) {
                seen.add(x.tree(set, what));
            }
        }
    }

    /** ITEMS from -1 to 4 by the court that tells them apart, LANES by what an ITEM can become. */
    private void rows() {
        x.court();
        Due.read(x, Edges.ITEMS);
        for (int row = 0; row < 8; row++) {
            for (int i = 0; i < 8; i++) {
                seen.add(x.said(0, row, i, 1, 1));
            }
            seen.add(x.set(row, 0, 40000));
            seen.add(x.drop(row));
        }
    }

    private void acts() {
        for (int act = 0; act < 25; act++) {
            seen.add(x.undo());
            seen.add(x.count(4));
            seen.add(x.count(5));
            seen.add(x.count(6));
        }
        look();
    }

    private void images() {
        for (int k = 0; k < 2; k++) {
            seen.add(x.restore(k));
            look();
        }
    }

    private void tape() {
        seen.add(x.court());
        look();
    }
}
