import java.util.ArrayList;
import java.util.List;

/**
 * All that can be seen of an object, in parts of some 250 calls at most. A part may change the
 * object that it looks at (what a SPRING was is told by a change alone), so each part wants an
 * object of its own.
 */
final class View {
    static final int PARTS = 8;

    private final SkinLoads x;
    private final List<Long> seen = new ArrayList<>();

    private View(SkinLoads x) {
        this.x = x;
    }

    static List<Long> of(SkinLoads x, int part) {
        View view = new View(x);
        switch (part) {
            case 0 -> view.dome();
            case 1 -> view.rib();
            case 2 -> view.bars();
            case 3 -> view.pushes();
            case 4 -> view.netAsWhole();
            case 5 -> view.skin();
            case 6 -> view.sights();
            default -> view.sheets();
        }
        return view.seen;
    }

    private void see(long answer) {
        seen.add(answer);
    }

    private void dome() {
        see(x.trace());
        for (int what = 0; what < 7; what++) {
            see(x.many(what));
        }
        for (int p = 0; p < 8; p++) {
            for (int what = 0; what < 6; what++) {
                see(x.panel(p, what));
            }
            for (int which = 0; which < 2; which++) {
                see(x.thrust(p, which));
                see(x.pull(p, which));
            }
            see(x.thick(400, p));
        }
    }

    private void rib() {
        for (int k = 0; k < 6; k++) {
            see(x.poly(k));
            see(x.folds(10 * k, 1));
            see(x.fold(k, 1));
            see(x.bound(1 + k));
        }
        for (int j = 0; j < 6; j++) {
            see(x.spring(j, 1));
        }
    }

    private void bars() {
        for (int b = 0; b < 16; b++) {
            for (int what = 0; what < 5; what++) {
                see(x.about(b, what));
            }
            see(x.tell(b));
            see(x.sign(b));
        }
        see(x.trace());
    }

    private void pushes() {
        for (int c = 0; c < 6; c++) {
            for (int b = 0; b < 16; b++) {
                see(x.push(c, b, 0));
                see(x.push(c, b, 1));
            }
        }
    }

    private void netAsWhole() {
        for (int c = 0; c < 6; c++) {
            see(x.stands(c));
            see(x.needs(c));
            see(x.order(63, c));
            for (int what = 0; what < 3; what++) {
                see(x.net(what));
                see(x.limit(c, what));
            }
        }
        for (int joint = 0; joint < 8; joint++) {
            see(x.move(joint, 0));
            see(x.move(joint, 1));
        }
        for (int place = 0; place < 36; place++) {
            see(x.joint(place / 6, place % 6, true));
        }
    }

    private void skin() {
        for (int what = 0; what < 5; what++) {
            see(x.skin(what));
        }
        for (int place = 0; place < 100; place++) {
            see(x.hole(place / 10, place % 10, true));
        }
    }

    private void sights() {
        see(x.most());
        for (int a = 0; a < 12; a++) {
            for (int b = 0; b < 12; b++) {
                see(x.quarrel(a, b));
            }
            for (int k = 0; k < 4; k++) {
                see(x.span(1 << a, k / 2, k % 2));
            }
        }
    }

    private void sheets() {
        for (int k = 0; k < 4; k++) {
            int lane = 0;
            while (lane < 2 && isOtherLane(k, lane)) {
                lane++;
            }
            see(lane);
            long cell = 0;
            for (int i = 0; i <= 60 && cell != SkinLoads.LOST; i++) {
                cell = x.cell(k, i, lane);
                see(cell);
            }
            see(x.fault());
        }
    }

    private boolean isOtherLane(int k, int lane) {
        x.cell(k, 0, lane);
        return x.fault() == 2;
    }
}
