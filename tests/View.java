import java.util.LinkedHashMap;
import java.util.Map;

/**
 * All that the calls tell of an object, by name; what an object is asked for last changes it, so it is of no use then.
 * A View takes fewer than 400 calls: an object may have had some hundred ahead of it.
 */
final class View {
    private final ShortPrayers x;
    private final Map<String, String> told = new LinkedHashMap<>();

    private View(ShortPrayers x) {
        this.x = x;
    }

    static Map<String, String> of(ShortPrayers x) {
        View view = new View(x);
        view.village();
        view.prayers();
        view.texts();
        view.whatIsFound();
        view.whatIsUndone();
        view.whatIsLost();
        return view.told;
    }

    private void tell(String name, int... numbers) {
        StringBuilder row = new StringBuilder();
        for (int i = 0; i < numbers.length; i++) {
            row.append(i == 0 ? "" : ",").append(numbers[i]);
        }
        told.put(name, row.toString());
    }

    private void village() {
        for (int what = 0; what <= 9; what++) {
            tell("count(" + what + ")", x.count(what));
        }
        for (int what = 15; what <= 19; what++) {
            tell("count(" + what + ")", x.count(what));
        }
        for (int i = 0; i < 10; i++) {
            tell("lengthOf(" + i + ")", x.lengthOf(i));
        }
        for (int i = 0; i < 16; i++) {
            tell("of(" + i + ")", x.of(i, 0), x.of(i, 1), x.of(i, 2), x.of(i, 3));
        }
        for (int i = 0; i < 6; i++) {
            tell("breath(" + i + ")", x.breath(i, 0), x.breath(i, 1));
            tell("drawn(" + i + ")", x.drawn(i, 0), x.drawn(i, 1), x.drawn(i, 2), x.drawn(i, 3));
        }
    }

    private void prayers() {
        for (int i = 0; i < 16; i++) {
            tell("at(" + i + ")", x.at(i, 0), x.at(i, 1), x.at(i, 2), x.at(i, 3), x.at(i, 4), x.at(i, 5), x.at(i, 6));
            tell("rank(" + i + ")", x.rank(i, 0));
        }
        tell("order", x.order(-1), x.order(0), x.order(1), x.order(2));
    }

    private void texts() {
        tell("coughs", x.coughs());
        tell("fault", x.fault());
        tell("stopped", x.stopped());
    }

    private void whatIsFound() {
        for (int thing = 0; thing < 8; thing++) {
            tell("say(" + thing + ")", x.say(thing, 0), x.say(thing, 1), x.say(thing, 2));
            tell("cover(" + (1 << thing) + ")", x.cover(1 << thing, 1));
        }
        tell("code(3)", x.code(3, 0), x.code(3, 1), x.code(3, 2), x.code(3, 3));
        tell("cover(255)", x.cover(255, 0), x.cover(255, 1));
        tell("hidden", x.hidden(-1), x.hidden(0));
    }

    private void whatIsUndone() {
        StringBuilder undone = new StringBuilder();
        for (int i = 0; i < 17; i++) {
            int was = x.undo();
            if (was < 0) {
                break;
            }
            undone.append(was);
        }
        told.put("undo", undone.toString());
    }

    private void whatIsLost() {
        for (int one = 0; one < 8; one++) {
            tell("often(" + one + ")", x.often(one, 0));
            for (int other = one + 1; other < 8; other++) {
                // told by either one
                boolean turned = (one + other) % 2 == 0;
                tell("clash(" + one + "," + other + ")", turned ? x.clash(other, one, 0) : x.clash(one, other, 0));
            }
        }
        for (int k = 0; k < 2; k++) {
            if (x.back(k) == 0) {
                tell("back(" + k + ")", x.count(0), x.count(1), x.count(2), x.count(3), x.count(4), x.count(5),
                    x.count(6), x.count(7), x.count(15), x.count(16));
            } else {
                tell("back(" + k + ")", -2);
            }
        }
    }
}
