import java.util.ArrayList;
import java.util.List;

/** All that can be seen of an object: the house, the house of the image, of the tape, and the sheets. The object is spent by it. */
final class Dump {
    private static final int NULL = -11, CAST = -12, INDEX = -13;

    private final SixBeds x;
    private final List<String> seen = new ArrayList<>();
    private int calls = 0;

    Dump(SixBeds x) {
        this.x = x;
        house("");
        see("restore()", x.restore());
        house("of the image: ");
        see("lodging()", x.lodging());
        house("of the tape: ");
        empty();
        for (int sheet = 0; sheet < 4; sheet++) {
            items(sheet);
        }
    }

    int calls() {
        return calls;
    }

    /** What is first seen otherwise, or null. */
    String differenceTo(Dump other) {
        for (int k = 0; k < Math.max(seen.size(), other.seen.size()); k++) {
            String here = k < seen.size() ? seen.get(k) : "nothing more", there = k < other.seen.size() ? other.seen.get(k) : "nothing more";
            if (!here.equals(there)) {
                return here + ", without it " + there;
            }
        }
        return null;
    }

    private int see(String call, int answer) {
        calls++;
        seen.add(call + " is " + answer);
        return answer;
    }

    private void house(String which) {
        for (int what = 0; what < 5; what++) {
            see(which + "count(" + what + ")", x.count(what));
        }
        for (int l = 0; l < x.count(0); l++, calls++) {
            for (int what = 0; what < 5; what++) {
                see(which + "told(" + l + ", " + what + ")", x.told(l, what));
            }
        }
        int lasts = see(which + "lasts(9)", x.lasts(9));
        see(which + "lasts back", x.lasts(lasts));
        see(which + "first(0)", x.first(0));
        see(which + "ways()", x.ways());
        see(which + "mended(-1)", x.mended(-1));
        see(which + "rents(-1)", x.rents(-1));
        see(which + "linen()", x.linen());
        see(which + "sick(1, 2)", x.sick(1, 2));
    }

    private void empty() {
        for (int l = x.count(0); l > 0; l--) {
            see("leave(0)", x.leave(0));
        }
        see("lodger(0, 1, 0)", x.lodger(0, 1, 0));
        calls++;
    }

    /** By one lodger, who may begin anywhere, items can be read: 0 .. 7, or another number. */
    private void items(int sheet) {
        for (int lane = 0; lane < 3; lane++) {
            int first = see("lay(" + sheet + ", " + lane + ", 0)", x.lay(sheet, lane, 0));
            if (first == NULL) {
                return;
            }
            for (int i = 0; first != CAST && see("lay(" + sheet + ", " + lane + ", " + i + ")", x.lay(sheet, lane, i)) != INDEX; i++) {
                see("item " + i, x.told(0, 4));
            }
        }
        see("drop(" + sheet + ")", x.drop(sheet));
    }
}
