import java.util.ArrayList;
import java.util.List;

/** All that can be known of an object but for STATUS; taking it uses the object up. */
final class Picture {
    private Picture() { }

    static List<Long> take(ThrownOver x) {
        List<Long> all = new ArrayList<>();
        down(x, all);
        for (int i = 0; i < 2; i++) {
            all.add((long) x.from(i));
            down(x, all);
        }
        all.add((long) x.read());
        down(x, all);
        return all;
    }

    /** What is there, and what is there behind each undo. */
    private static void down(ThrownOver x, List<Long> all) {
        all.add(x.digest());
        for (int i = 0; i < 9; i++) {
            all.add((long) x.undo());
            all.add(x.digest());
        }
    }
}
