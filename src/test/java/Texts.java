import java.util.Random;

/** Texts of HOUSES for tests: put on the TAPE, and made by draws that are the same each time. */
final class Texts {
    private static final String[] NAMES = {"a", "b", "ann", "hall", "both", "one", "line", "house", "e", "abcdefgh"};
    private static final String[] WORDS = {"room", "holds", "trunk", "bulk", "at", "marks", "told", "brood", "pines",
        "tales", "draw", "or", "and", "not", "alike", "left", "many", "year", "a", "zz", "abcdefghi", "5", "0", "12",
        "999", "1000", "9999", "12345", "7a", ";", "(", ")", "<", ">", "=", "+", "-", "*", "/", "%", "?", "A", "\t"};

    private final Random draws;

    Texts(Random draws) {
        this.draws = draws;
    }

    /** The five numbers of the i-th twenty bytes of a text, blanks behind its end. */
    static int[] five(String text, int i) {
        int[] five = new int[5];
        for (int b = 0; b < 20; b++) {
            int at = i * 20 + b;
            five[b / 4] = five[b / 4] << 8 | (at < text.length() ? text.charAt(at) : ' ');
        }
        return five;
    }

    static void feed(TrunkLitters x, String text) {
        x.end(0);
        for (int i = 0; i * 20 < text.length(); i++) {
            int[] f = five(text, i);
            x.feed(f[0], f[1], f[2], f[3], f[4]);
        }
        x.end(text.length());
    }

    static int house(TrunkLitters x, String text) {
        feed(x, text);
        return x.house();
    }

    String name() {
        return NAMES[draws.nextInt(NAMES.length)];
    }

    String formula(int depth) {
        StringBuilder s = new StringBuilder();
        int parts = 1 + draws.nextInt(3);
        for (int i = 0; i < parts; i++) {
            if (i > 0) {
                s.append(pick(" or ", " and ", " + ", " - ", "*", "/", "%", " + ", " - "));
            }
            if (draws.nextInt(12) == 0 && (i == 0 || s.toString().endsWith(" and ") || s.toString().endsWith(" or "))) {
                s.append("not ");
            }
            int kind = draws.nextInt(9);
            if (kind < 2 && depth < 4) {
                s.append("(").append(formula(depth + 1)).append(")");
                if (draws.nextInt(4) == 0) {
                    s.append(pick("<", ">", "="));
                    s.append(unit());
                    break;
                }
            } else {
                s.append(unit());
            }
        }
        return s.toString();
    }

    private String unit() {
        return pick("bulk", "alike", "left", "many", "year", "" + draws.nextInt(12), "" + draws.nextInt(10000), "3");
    }

    private String pick(String... from) {
        return from[draws.nextInt(from.length)];
    }

    /** A HOUSE that is mostly without FAULT, often with TRUNKS that go on for a while. */
    String house() {
        StringBuilder s = new StringBuilder();
        int rooms = 1 + draws.nextInt(4);
        boolean tight = draws.nextBoolean();
        int[] left = new int[rooms];
        for (int r = 0; r < rooms; r++) {
            left[r] = tight || draws.nextInt(3) == 0 ? draws.nextInt(30) : 20 + draws.nextInt(80);
            s.append("room r").append((char) ('a' + r)).append(" holds ").append(left[r]).append(";\n");
        }
        int trunks = draws.nextInt(3) == 0 ? draws.nextInt(7) : 6;
        for (int t = 0; t < trunks; t++) {
            int r = draws.nextInt(rooms);
            for (int i = 0; i < 3 && left[r] < 8; i++) {
                r = draws.nextInt(rooms);
            }
            int bulk = 1 + draws.nextInt(tight ? 12 : draws.nextBoolean() ? 20 : 7);
            if (left[r] < bulk && draws.nextInt(40) > 0) {
                if (left[r] == 0) {
                    continue;
                }
                bulk = Math.min(20, left[r]);
            }
            left[r] -= bulk;
            s.append("trunk t").append((char) ('a' + t)).append(" bulk ").append(bulk).append(" at r")
                .append((char) ('a' + r)).append(" marks ").append(draws.nextInt(64));
            if (draws.nextInt(6) > 0) {
                s.append(" told ").append(draws.nextInt(10));
            }
            s.append(";");
        }
        if (draws.nextInt(3) > 0) {
            s.append("brood ").append(draws.nextInt(2) == 0 ? "bulk" : formula(0)).append(";");
        }
        if (draws.nextInt(3) > 0) {
            s.append("pines ").append(1 + draws.nextInt(9)).append(" ;");
        }
        if (draws.nextInt(5) > 0) {
            s.append("tales ").append(draws.nextInt(100)).append(";");
        }
        if (draws.nextInt(4) > 0) {
            s.append("draw ").append(draws.nextInt(1000)).append(";");
        }
        return s.toString();
    }

    /** A HOUSE with something put in, taken out or changed. */
    String marred() {
        StringBuilder s = new StringBuilder(house());
        int times = 1 + draws.nextInt(2);
        for (int i = 0; i < times; i++) {
            int at = draws.nextInt(s.length() + 1);
            switch (draws.nextInt(8)) {
                case 0 -> s.setLength(at);
                case 4, 5 -> changeNumber(s, at);
                case 6 -> changeName(s, at);
                case 1 -> s.insert(at, WORDS[draws.nextInt(WORDS.length)]);
                case 2 -> s.insert(at, " " + WORDS[draws.nextInt(WORDS.length)] + " ");
                case 3 -> s.delete(at, Math.min(s.length(), at + 1 + draws.nextInt(4)));
                default -> {
                    if (at < s.length()) {
                        s.setCharAt(at, (char) draws.nextInt(256));
                    }
                }
            }
        }
        return s.toString();
    }

    private void changeNumber(StringBuilder s, int from) {
        for (int i = from; i < s.length(); i++) {
            if (Character.isDigit(s.charAt(i))) {
                int end = i;
                while (end < s.length() && Character.isDigit(s.charAt(end))) {
                    end++;
                }
                s.replace(i, end, pick("0", "1", "9", "10", "20", "21", "63", "64", "99", "100", "999", "1000", "0009"));
                return;
            }
        }
    }

    private void changeName(StringBuilder s, int from) {
        int at = Math.max(s.indexOf(draws.nextBoolean() ? " r" : " t", from), 0);
        if (at > 0 && at + 2 < s.length()) {
            s.setCharAt(at + 2, "abcdefgz".charAt(draws.nextInt(8)));
        }
    }

    /** Words and signs without sense. */
    String heap() {
        StringBuilder s = new StringBuilder(draws.nextBoolean() ? "room a holds 50;" : "brood ");
        int words = draws.nextInt(12);
        for (int i = 0; i < words; i++) {
            s.append(WORDS[draws.nextInt(WORDS.length)]).append(draws.nextInt(3) == 0 ? "" : " ");
        }
        return s.append(draws.nextBoolean() ? ";" : "").toString();
    }

    /** A formula with many units, or much within much. */
    String deep() {
        StringBuilder s = new StringBuilder("room a holds 90;brood ");
        if (draws.nextBoolean()) {
            int units = 27 + draws.nextInt(7);
            for (int i = 0; i < units; i++) {
                s.append(i == 0 ? "" : pick("+", "-", " and ", " or ", "*")).append(draws.nextInt(6) == 0 ? "(many)" : unit());
            }
        } else {
            int within = 5 + draws.nextInt(5);
            StringBuilder tail = new StringBuilder();
            for (int i = 0; i < within; i++) {
                boolean not = draws.nextBoolean();
                s.append(not ? "not " : "(");
                tail.append(not ? "" : ")");
            }
            s.append("bulk").append(tail);
        }
        return s.append(";").toString();
    }
}
