import java.util.LinkedHashMap;
import java.util.Map;

/** All that an object can tell, read to the ground: its acts are undone, its tape is read and its images come back by it. */
final class Ground {
    private final RoadToPort x;
    private final Map<String, Long> told = new LinkedHashMap<>();

    private Ground(RoadToPort x) {
        this.x = x;
    }

    static Map<String, Long> of(RoadToPort x) {
        Ground ground = new Ground(x);
        ground.land();
        ground.men();
        ground.toldLast();
        ground.acts();
        ground.tape();
        ground.images();
        return ground.told;
    }

    private void put(String what, long answer) {
        told.put(what, answer);
    }

    private void now(String when) {
        for (int what = 0; what < 7; what++) {
            put(when + "now(" + what + ")", x.now(what));
        }
    }

    private void land() {
        for (int what = 0; what < 5; what++) {
            put("count(" + what + ")", x.count(what));
        }
        put("fault()", x.fault());
        for (int p = 0; p < x.count(0); p++) {
            for (int what = 0; what < 5; what++) {
                put("place(" + p + ", " + what + ")", x.place(p, what));
            }
            for (int q = 0; q < p; q++) {
                put("road(" + p + ", " + q + ", 0)", x.road(p, q, 0));
            }
        }
    }

    private void men() {
        now("");
        for (int m = 0; m < x.count(2); m++) {
            for (int what = 0; what < 14; what++) {
                put("man(" + m + ", " + what + ")", x.man(m, what));
            }
        }
        for (int k = -1; k < 4; k++) {
            put("said(" + k + ")", x.said(k));
        }
    }

    private void toldLast() {
        for (int k = 0; k < 6; k++) {
            put("wayAt(" + k + ")", x.wayAt(k));
            put("planAt(" + k + ")", x.planAt(k));
            put("sentTo(" + k + ")", x.sentTo(k));
        }
        for (int i = 0; i < 14; i++) {
            put("byteAt(" + i + ")", x.byteAt(i));
        }
        for (int what = 0; what < 4; what++) {
            put("told(" + what + ")", x.told(what));
        }
        put("cutting()", x.cutting());
        put("least()", x.least());
        put("greatest()", x.greatest());
    }

    private void acts() {
        for (int n = 0; n < 5; n++) {
            String when = n + " undone: ";
            put(when + "undo()", x.undo());
            now(when);
            for (int m = 0; m < x.count(2); m++) {
                put(when + "man(" + m + ", 2)", x.man(m, 2));
                put(when + "man(" + m + ", 10)", x.man(m, 10));
            }
        }
    }

    private void tape() {
        put("land() of the tape", x.land());
        put("its PLACES", x.count(0));
        put("its MEN", x.count(2));
        put("its first MAN", x.oath(0));
        put("a letter of his", x.byteAt(0));
    }

    private void images() {
        for (int k = 0; k < 2; k++) {
            String when = "place " + k + ": ";
            put(when + "restore()", x.restore(k) ? 1 : 0);
            put(when + "PLACES", x.count(0));
            now(when);
            put(when + "said(-1)", x.said(-1));
            for (int m = 0; m < x.count(2); m++) {
                put(when + "man(" + m + ", 2)", x.man(m, 2));
            }
        }
    }
}
