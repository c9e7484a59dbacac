import java.util.List;
import java.util.function.Supplier;

/** No argument makes a call throw; a look, and a call that returns an error, changes nothing, whatever its arguments are. */
public final class OddArgumentsTest {
    private interface Call {
        int on(ForkedStamps x, int one, int two);
    }

    private static final int[] ODD = {Integer.MIN_VALUE, -120, -16, -8, -7, -6, -5, -2, -1, 0, 1, 2, 3, 4, 5, 6, 7, 8, 9, 15, 16, 17, 63,
        64, 119, 120, 121, 128, 250, 255, 256, 65535, 1 << 30, Integer.MAX_VALUE - 1, Integer.MAX_VALUE};
    // Before these come at most 152 calls of the scene, behind them 111 of the digest: all are to be among an object's first 512.
    private static final int LOOKS_OF_ONE_OBJECT = 240;

    private static final Call[] CHANGES = {(x, one, two) -> x.fork(one), ForkedStamps::gather, (x, one, two) -> x.event(one),
        (x, one, two) -> x.send(one), ForkedStamps::receive, (x, one, two) -> x.drop(one), (x, one, two) -> x.restore(one)};
    private static final Call[] OTHERS = {(x, one, two) -> x.put((long) one << 32 | two & 0xFFFFFFFFL), (x, one, two) -> x.put(one),
        (x, one, two) -> x.save(one)};
    private static final Call[] LOOKS = {ForkedStamps::of, ForkedStamps::ofMessage, (x, one, two) -> x.count(one),
        (x, one, two) -> x.whose(one), (x, one, two) -> x.orderToPad(one), ForkedStamps::printed, (x, one, two) -> x.laggard(one),
        (x, one, two) -> x.fault(), (x, one, two) -> x.height(one, two, 15), (x, one, two) -> x.height(0, one, two),
        (x, one, two) -> x.height(1, one, two), (x, one, two) -> x.knows(one, two, 0), (x, one, two) -> x.knows(0, one, two),
        (x, one, two) -> x.knows(1, one, two), (x, one, two) -> x.order(one, two, 0, 0), (x, one, two) -> x.order(1, one, 0, two),
        (x, one, two) -> x.order(0, one, one, two), (x, one, two) -> x.more(one, two, 0, 0), (x, one, two) -> x.more(1, one, 1, two),
        (x, one, two) -> x.more(0, one, two, one), (x, one, two) -> x.ifReceive(one, two, 0), (x, one, two) -> x.ifReceive(0, one, two),
        (x, one, two) -> x.ifReceive(one, 1, two)};

    private static ForkedStamps looked;
    private static int looks = 0;

    public static void main(String[] args) {
        for (Supplier<ForkedStamps> scene : List.<Supplier<ForkedStamps>>of(ForkedStamps::new, Scenes::few, Scenes::full)) {
            String untouched = Scenes.digestOf(scene.get());
            for (int one : ODD) {
                for (int two : ODD) {
                    changes(scene, untouched, one, two);
                    looks(scene, untouched, one, two);
                }
            }
            looks = 0;
        }
        Check.end();
    }

    private static void changes(Supplier<ForkedStamps> scene, String untouched, int one, int two) {
        for (Call[] calls : new Call[][] {CHANGES, OTHERS}) {
            for (int i = 0; i < calls.length; i++) {
                ForkedStamps x = scene.get();
                if (calls[i].on(x, one, two) < 0) {
                    Check.same("behind the refused call " + i + " with " + one + ", " + two, Scenes.digestOf(x), untouched);
                }
            }
        }
    }

    private static void looks(Supplier<ForkedStamps> scene, String untouched, int one, int two) {
        if (looks == 0) {
            looked = scene.get();
        }
        for (Call look : LOOKS) {
            look.on(looked, one, two);
        }
        looks += LOOKS.length;
        if (looks + LOOKS.length > LOOKS_OF_ONE_OBJECT) {
            Check.same("behind looks up to " + one + ", " + two, Scenes.digestOf(looked), untouched);
            looks = 0;
        }
    }
}
