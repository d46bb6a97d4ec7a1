import java.util.ArrayList;
import java.util.List;
import java.util.function.Consumer;
import java.util.function.ToIntFunction;

/** What the tests of boundary cases share: each call is told with the sentence of the document that it rests on. */
final class Edges {
    /** Numbers that are no place, no ROOM, no MARK, no BOX, whatever is shifted, masked or wrapped. */
    static final int[] FAR = {Integer.MIN_VALUE, Integer.MIN_VALUE + 1, -1000, -256, -64, -33, -32, -8, -2, -1, 8, 9, 15,
        16, 31, 32, 33, 40, 64, 256, 257, 1000, 1 << 30, Integer.MAX_VALUE};
    private static String sentence = "";
    private static int sentences = 0;
    private static int calls = 0;
    private static int wrong = 0;

    private Edges() {
    }

    /** What the calls behind this rest on, in words so near to those of DOC.md that they are found there. */
    static void sentence(String words) {
        sentence = words;
        sentences++;
    }

    static void due(String call, int got, int due) {
        calls++;
        if (got != due) {
            wrong++;
            System.out.println("\"" + sentence + "\": " + call + " answered " + got + ", due is " + due);
        }
    }

    static void due(String call, boolean got, boolean due) {
        due(call, got ? 1 : 0, due ? 1 : 0);
    }

    static void close() {
        System.out.println(sentences + " sentences, " + calls + " calls, " + wrong + " wrong");
        if (wrong > 0) {
            System.exit(1);
        }
    }

    /** ROOMS a, b, .. by what they hold; TRUNKS m, n, .. as bulk/room/marks or bulk/room/marks/told; what else is told. */
    static String text(String rooms, String trunks, String more) {
        StringBuilder s = new StringBuilder();
        char room = 'a';
        for (String holds : rooms.split(" ")) {
            s.append("room ").append(room).append(" holds ").append(holds).append(';');
            room++;
        }
        char trunk = 'm';
        for (String one : trunks.isEmpty() ? new String[0] : trunks.split(" ")) {
            String[] p = one.split("/");
            s.append("trunk ").append(trunk).append(" bulk ").append(p[0]).append(" at ").append(p[1]).append(" marks ")
                .append(p[2]).append(p.length > 3 ? " told " + p[3] : "").append(';');
            trunk++;
        }
        return s.append(more).toString();
    }

    static TrunkLitters told(String rooms, String trunks, String more) {
        return told(text(rooms, trunks, more));
    }

    static TrunkLitters told(String text) {
        TrunkLitters x = new TrunkLitters();
        tell(x, text);
        return x;
    }

    /** A HOUSE that has no FAULT. */
    static void tell(TrunkLitters x, String text) {
        Texts.house(x, text);
        if (x.fault(0) != 0) {
            wrong++;
            System.out.println("\"" + sentence + "\": fault " + x.fault(0) + " at " + x.fault(1) + " in " + text);
        }
    }

    static void right(String text) {
        TrunkLitters x = new TrunkLitters();
        due("house() of " + text, Texts.house(x, text) >= 0, true);
        due("fault(0) of " + text, x.fault(0), 0);
        due("fault(1) of " + text, x.fault(1), -1);
    }

    static void fault(String text, int code, int place) {
        TrunkLitters x = new TrunkLitters();
        due("house() of " + text, Texts.house(x, text), -1);
        due("fault(0) of " + text, x.fault(0), code);
        due("fault(1) of " + text, x.fault(1), place);
    }

    /** All numbers of one kind, as "trunk(3, .)". */
    static void trunk(TrunkLitters x, int t, int... due) {
        for (int what = 0; what < due.length; what++) {
            due("trunk(" + t + ", " + what + ")", x.trunk(t, what), due[what]);
        }
    }

    static void about(TrunkLitters x, int... due) {
        for (int what = 0; what < due.length; what++) {
            due("about(" + what + ")", x.about(what), due[what]);
        }
    }

    static void lie(TrunkLitters x, int... due) {
        due("about(12)", x.about(12), due.length);
        for (int i = 0; i < due.length; i++) {
            due("lies(" + i + ")", x.lies(i), due[i]);
        }
        due("lies(" + due.length + ")", x.lies(due.length), -2);
    }

    /** A house in which young() can be called: nobody brings forth but those that are told for it. */
    static TrunkLitters nursery(String trunks) {
        return told("99 99", trunks, "brood 1;pines 9;tales 99;");
    }

    /** The young one of two that PINE in the first ROOM, as all others do: where it came; it stands there, too. */
    static int young(TrunkLitters x, int one, int other) {
        int came = -1;
        for (int t : new int[] {one, other}) {
            x.carry(t, 1);
            x.tell(t);
        }
        int bits = x.year();
        for (int t = 0; t < 8; t++) {
            if (bits == 1 << t) {
                came = t;
                x.carry(t, 0);
            }
        }
        x.carry(one, 0);
        x.carry(other, 0);
        return came;
    }

    /** The same for each number that can't be. */
    static void never(String call, ToIntFunction<Integer> answers, int due, int... numbers) {
        for (int n : numbers) {
            due(call.replace("#", "" + n), answers.applyAsInt(n), due);
        }
    }

    /** A call that is refused, on one of two objects with the same calls ahead: all that is seen of both is the same. */
    static void nothing(String call, Consumer<TrunkLitters> ahead, ToIntFunction<TrunkLitters> refused, int answer) {
        TrunkLitters with = new TrunkLitters();
        TrunkLitters without = new TrunkLitters();
        ahead.accept(with);
        ahead.accept(without);
        due(call, refused.applyAsInt(with), answer);
        List<Integer> seen = seen(with);
        List<Integer> due = seen(without);
        calls++;
        if (!seen.equals(due)) {
            wrong++;
            int i = 0;
            while (seen.get(i).equals(due.get(i))) {
                i++;
            }
            System.out.println("\"" + sentence + "\": " + call + " did something, seen by look " + i);
        }
    }

    /** What is seen of an object, by looking and by going on. */
    private static List<Integer> seen(TrunkLitters x) {
        List<Integer> all = new ArrayList<>();
        look(x, all);
        for (int k = 0; k <= 4; k++) {
            all.add(x.fits(x.about(9) - 2 + k));
        }
        goOn(x, all);
        for (int box = 0; box < 3; box++) {
            all.add(x.back(box));
            step(x, all);
        }
        for (int h = 0; h < 4; h++) {
            all.add(x.untell(h) ? 1 : 0);
            all.add(x.fits(x.about(9)));
        }
        all.add(x.house());
        look(x, all);
        return all;
    }

    private static void goOn(TrunkLitters x, List<Integer> all) {
        int redone = 0;
        while (redone < 50 && x.redo()) {
            redone++;
            step(x, all);
        }
        int undone = 0;
        while (undone < 50 && x.undo()) {
            undone++;
            step(x, all);
        }
        all.add(redone);
        all.add(undone);
    }

    private static void step(TrunkLitters x, List<Integer> all) {
        all.add(x.about(2));
        all.add(x.about(3));
        all.add(x.about(4));
        all.add(x.about(5));
    }

    private static void look(TrunkLitters x, List<Integer> all) {
        for (int what = 0; what < 15; what++) {
            all.add(x.about(what));
        }
        for (int t = 0; t < 8; t++) {
            for (int what = 0; what < 7; what++) {
                all.add(x.trunk(t, what));
            }
        }
        for (int r = 0; r < 4; r++) {
            all.add(x.room(r, 0));
            all.add(x.room(r, 1));
        }
        for (int i = 0; i < 9; i++) {
            all.add(x.lies(i));
        }
        all.add(x.fault(0));
        all.add(x.fault(1));
        all.add(x.alive(30));
    }
}
