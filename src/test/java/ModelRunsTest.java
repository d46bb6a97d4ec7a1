import java.util.Random;

/** Runs of at most 512 calls on the program and on the model: every answer is the same. */
public final class ModelRunsTest {
    private static final int RUNS = 4000;

    private final Random draws;
    private final Texts texts;
    private final TrunkLitters x = new TrunkLitters();
    private final Model m = new Model();
    private final StringBuilder run = new StringBuilder();
    private int calls = 0;
    private int wrong = 0;
    static long all = 0;

    private ModelRunsTest(long seed) {
        draws = new Random(seed);
        texts = new Texts(draws);
    }

    public static void main(String[] args) {
        int failed = 0;
        int runs = args.length > 0 ? Integer.parseInt(args[0]) : RUNS;
        for (int seed = 0; seed < runs && failed < 3; seed++) {
            ModelRunsTest t = new ModelRunsTest(seed);
            t.goOn();
            if (t.wrong > 0) {
                failed++;
                System.out.println("run " + seed + ":\n" + t.run);
            }
        }
        System.out.println(all + " calls, " + failed + " runs with another answer than the model's");
        if (failed > 0) {
            System.exit(1);
        }
    }

    private void goOn() {
        house(texts.house());
        while (calls < 470 && wrong == 0) {
            int kind = draws.nextInt(60);
            boolean bare = m.about(0) < 3 && draws.nextInt(12) == 0;
            if (kind == 0 || bare) {
                house(texts.house());
            } else if (kind == 1) {
                house(switch (draws.nextInt(4)) {
                    case 0 -> texts.heap();
                    case 1 -> texts.deep();
                    default -> texts.marred();
                });
            } else if (kind < 20) {
                act();
            } else {
                look(kind);
            }
        }
        for (int i = 0; i <= 14 && wrong == 0; i++) {
            same("about(" + i + ")", x.about(i), m.about(i));
        }
    }

    private void same(String call, int got, int due) {
        calls++;
        all++;
        run.append(call).append(" -> ").append(got).append('\n');
        if (got != due) {
            wrong++;
            run.append("   the model: ").append(due).append('\n');
        }
    }

    private void house(String text) {
        run.append("text: ").append(text).append('\n');
        for (int i = 0; i * 20 < text.length(); i++) {
            int[] f = Texts.five(text, i);
            same("feed", x.feed(f[0], f[1], f[2], f[3], f[4]), m.feed(f[0], f[1], f[2], f[3], f[4]));
        }
        same("end", x.end(text.length()), m.end(text.length()));
        same("house()", x.house(), m.house());
        same("fault(0)", x.fault(0), m.fault(0));
        same("fault(1)", x.fault(1), m.fault(1));
        same("about(11)", x.about(11), m.about(11));
    }

    private int b(boolean is) {
        return is ? 1 : 0;
    }

    private int place() {
        int t = draws.nextInt(12) == 0 ? draws.nextInt(14) - 3 : draws.nextInt(8);
        for (int i = 0; i < 6 && (m.about(2) >> t & 1) == 0; i++) {
            t = draws.nextInt(8);
        }
        return draws.nextInt(20) == 0 ? odd(14) : t;
    }

    /** Mostly somewhat beside what can be, at times far from it. */
    private int odd(int most) {
        return switch (draws.nextInt(12)) {
            case 0 -> Integer.MIN_VALUE;
            case 1 -> Integer.MAX_VALUE;
            case 2 -> draws.nextInt();
            case 3 -> 32 * draws.nextInt(9);
            default -> draws.nextInt(most) - 3;
        };
    }

    private int room() {
        return draws.nextInt(12) == 0 ? odd(9) : draws.nextInt(4);
    }

    private int what(int most) {
        return draws.nextInt(12) == 0 ? odd(most + 6) : draws.nextInt(most + 1);
    }

    private int n() {
        return draws.nextInt(12) == 0 ? odd(40) : draws.nextInt(draws.nextBoolean() ? 8 : 31);
    }

    private void act() {
        int t = place();
        int r = room();
        switch (draws.nextInt(14)) {
            case 0, 1 -> same("year()", x.year(), m.year());
            case 2, 3, 4, 5, 6 -> same("tell(" + t + ")", x.tell(t), m.tell(t));
            case 7, 8 -> same("carry(" + t + ", " + r + ")", x.carry(t, r), m.carry(t, r));
            case 9 -> {
                if (draws.nextInt(3) == 0) {
                    same("lose(" + t + ")", x.lose(t), m.lose(t));
                }
            }
            case 10 -> {
                int times = draws.nextInt(4) == 0 ? 45 : 1;
                for (int i = 0; i < times && calls < 470; i++) {
                    same("undo()", b(x.undo()), b(m.undo()));
                }
            }
            case 11 -> {
                int times = draws.nextInt(4) == 0 ? 45 : 1;
                for (int i = 0; i < times && calls < 470; i++) {
                    same("redo()", b(x.redo()), b(m.redo()));
                }
            }
            case 12 -> same("image(" + (r - 1) + ")", x.image(r - 1), m.image(r - 1));
            default -> {
                if (draws.nextInt(2) == 0) {
                    same("back(" + (r - 1) + ")", x.back(r - 1), m.back(r - 1));
                }
            }
        }
    }

    private void look(int kind) {
        int t = place();
        int o = place();
        int r = room();
        int n = n();
        int w = what(2);
        int i = draws.nextInt(20) == 0 ? odd(12) : draws.nextInt(10) - 1;
        String to = "(" + t + ", " + o + ")";
        switch (kind) {
            case 20 -> same("room(" + r + ", " + w + ")", x.room(r, w), m.room(r, w));
            case 21, 22 -> {
                int what = what(6);
                same("trunk(" + t + ", " + what + ")", x.trunk(t, what), m.trunk(t, what));
            }
            case 23, 24 -> same("brood" + to, x.brood(t, o), m.brood(t, o));
            case 25 -> same("couple(" + r + ")", x.couple(r), m.couple(r));
            case 26 -> same("will(" + t + ", " + n + ", " + w + ")", x.will(t, n, w), m.will(t, n, w));
            case 27 -> same("alive(" + n + ")", x.alive(n), m.alive(n));
            case 28 -> same("pack()", x.pack(), m.pack());
            case 29 -> same("fill(" + r + ", " + w + ")", x.fill(r, w), m.fill(r, w));
            case 30, 31 -> same("sires(" + t + ", " + w + ")", x.sires(t, w), m.sires(t, w));
            case 32, 33 -> {
                int c = place();
                int d = place();
                same("quartet" + t + o + c + d + w, x.quartet(t, o, c, d, w), m.quartet(t, o, c, d, w));
            }
            case 34 -> same("span()", x.span(), m.span());
            case 35 -> same("line(" + t + ")", x.line(t), m.line(t));
            case 36 -> same("litter(" + t + ")", x.litter(t), m.litter(t));
            case 37, 38 -> same("kin" + to, x.kin(t, o), m.kin(t, o));
            case 39 -> same("need(" + n + ")", x.need(n), m.need(n));
            case 40 -> same("best(" + t + ", " + w + ")", x.best(t, w), m.best(t, w));
            case 41 -> same("rivals" + to, x.rivals(t, o), m.rivals(t, o));
            case 42 -> same("fading(" + n + ")", x.fading(n), m.fading(n));
            case 43 -> same("alike" + to, x.alike(t, o), m.alike(t, o));
            case 44 -> same("like(" + t + ")", x.like(t), m.like(t));
            case 45 -> same("odd()", x.odd(), m.odd());
            case 46 -> same("bearers(" + i + ")", x.bearers(i), m.bearers(i));
            case 47 -> same("roomiest()", x.roomiest(), m.roomiest());
            case 48 -> same("ripe()", x.ripe(), m.ripe());
            case 49 -> same("law(" + i + ", " + n + ")", x.law(i, n), m.law(i, n));
            case 50 -> same("pining()", x.pining(), m.pining());
            case 51 -> same("gone(" + t + ")", x.gone(t), m.gone(t));
            case 52 -> same("lies(" + i + ")", x.lies(i), m.lies(i));
            case 53, 54 -> hold();
            case 55 -> same("sure(" + i + ")", x.sure(i, asKnown()), m.sure(i, lastKnown));
            case 56 -> same("ask(" + w + ")", x.ask(w, asKnown()), m.ask(w, lastKnown));
            case 57 -> same("fits", x.fits(asKnown()), m.fits(lastKnown));
            default -> {
                int what = what(14);
                same("about(" + what + ")", x.about(what), m.about(what));
            }
        }
    }

    private int lastKnown = 0;

    private int asKnown() {
        lastKnown = draws.nextInt(10) == 0 ? draws.nextInt() : draws.nextInt(x.about(9) + 2) - 1;
        return lastKnown;
    }

    private void hold() {
        int t = draws.nextInt(6);
        int many = what(6);
        boolean is = draws.nextBoolean();
        switch (draws.nextInt(4)) {
            case 0, 1 -> same("held(" + t + ", " + many + ", " + is + ")", x.held(t, many, is), m.held(t, many, is));
            case 2 -> {
                int h = draws.nextInt(6) - 1;
                same("untell(" + h + ")", b(x.untell(h)), b(m.untell(h)));
            }
            default -> {
                int by = draws.nextInt(9) == 0 ? odd(1100) : draws.nextInt(4);
                same("later(" + by + ")", x.later(by), m.later(by));
            }
        }
    }
}
