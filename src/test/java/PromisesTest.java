/** For each promise of the document: ordinary calls, the edges that it names, and wrong ones; worked out by hand. */
public final class PromisesTest {
    private static final String HOUSE = "room attic holds 30;room hall holds 12;"
        + "trunk ann bulk 8 at attic marks 5 told 2;trunk bob bulk 6 at attic marks 7;"
        + "trunk cid bulk 6 at attic marks 0 told 1;trunk dot bulk 5 at hall marks 63;pines 2;tales 3;draw 7;";
    private static final String PAIR = "room r holds 40; trunk a bulk 8 at r marks 42 told 9;"
        + " trunk b bulk 9 at r marks 21 told 9; tales 9; ";

    private static int wrong = 0;
    private static int calls = 0;
    private static int promise = 0;

    public static void main(String[] args) {
        promise1();
        promises2And3();
        promise4();
        promise5Tokens();
        promise5Standing();
        promise5Names();
        promise5Numbers();
        promise5Units();
        promises6And7();
        promise8();
        promise8Formulas();
        promise9();
        promise10Listening();
        promise10Growing();
        promise10Bringing();
        promise10Seeds();
        promise10AtTheFirstPlace();
        promise11();
        promise12();
        promise13();
        promises14And15();
        promise16();
        promise17();
        promise18();
        promise19();
        promise20();
        promise21();
        promise22();
        promises23To25();
        promise26();
        promise27();
        promise28();
        promise29();
        promise30To33();
        promise34();
        promise35();
        promise36();
        promise37();
        promise38();
        promise39();
        promise40();
        promise41And42();
        promise43();
        promise44();
        promise45();
        promises46And47();
        promise48();
        System.out.println(calls + " calls, " + wrong + " wrong");
        if (wrong > 0) {
            System.exit(1);
        }
    }

    private static void due(String call, int got, int due) {
        calls++;
        if (got != due) {
            wrong++;
            System.out.println("promise " + promise + ": " + call + " answered " + got + ", due is " + due);
        }
    }

    private static void due(String call, boolean got, boolean due) {
        due(call, got ? 1 : 0, due ? 1 : 0);
    }

    private static TrunkLitters told(String text) {
        TrunkLitters x = new TrunkLitters();
        if (Texts.house(x, text) < 0) {
            wrong++;
            System.out.println("promise " + promise + ": fault " + x.fault(0) + " at " + x.fault(1) + " in " + text);
        }
        return x;
    }

    private static void fault(String text, int code, int place) {
        TrunkLitters x = new TrunkLitters();
        due("house() of " + text, Texts.house(x, text) < 0 ? -1 : 0, code == 0 ? 0 : -1);
        due("fault(0) of " + text, x.fault(0), code);
        due("fault(1) of " + text, x.fault(1), place);
        due("about(10)", x.about(10), 0);
    }

    private static void promise1() {
        promise = 1;
        TrunkLitters x = new TrunkLitters();
        int[] about = {0, 0, 0, 0, 0, 0, 0, 0, 0, 0, 0, 0, 0, 3, 0};
        for (int i = 0; i < about.length; i++) {
            due("about(" + i + ")", x.about(i), about[i]);
        }
        due("undo()", x.undo(), false);
        due("redo()", x.redo(), false);
        due("back(0)", x.back(0), -1);
        due("fault(0)", x.fault(0), 0);
        due("fault(1)", x.fault(1), -1);
        due("lies(0)", x.lies(0), -2);
    }

    private static void promises2And3() {
        promise = 2;
        TrunkLitters x = new TrunkLitters();
        // 'pine', 's 4;', and blanks: the highest byte of each number comes first
        due("feed", x.feed(0x70696e65, 0x7320343b, 0x20202020, 0x20202020, 0x20202020), 20);
        due("house()", x.house(), 0);
        due("about(13)", x.about(13), 4);
        for (int i = 1; i <= 80; i++) {
            due("feed " + i, x.feed(-1, Integer.MIN_VALUE, 0, 255, 7), i * 20);
        }
        due("feed 81", x.feed(1, 2, 3, 4, 5), -1);
        due("about(10)", x.about(10), 1600);
        promise = 3;
        due("end(1601)", x.end(1601), -1);
        due("end(-1)", x.end(-1), -1);
        due("end(MIN)", x.end(Integer.MIN_VALUE), -1);
        due("about(10)", x.about(10), 1600);
        due("end(1600)", x.end(1600), 1600);
        due("end(1581)", x.end(1581), 1581);
        due("feed", x.feed(0, 0, 0, 0, 0), -1);
        due("end(1580)", x.end(1580), 1580);
        due("feed", x.feed(0, 0, 0, 0, 0), 1600);
        due("end(0)", x.end(0), 0);
        due("end(1)", x.end(1), -1);
        due("about(10)", x.about(10), 0);
        // what comes behind an end stands directly behind it
        x.feed(0x70696e65, 0x73202040, 0, 0, 0);
        due("end(7)", x.end(7), 7);
        x.feed(0x373b2020, 0x20202020, 0x20202020, 0x20202020, 0x20202020);
        due("house()", x.house(), 0);
        due("about(13)", x.about(13), 7);
    }

    private static void promise4() {
        promise = 4;
        TrunkLitters x = told(HOUSE);
        x.later(7);
        x.year();
        x.tell(0);
        for (int i = 0; i < 3; i++) {
            x.image(i);
        }
        x.held(0, 3, true);
        x.pack();
        Texts.feed(x, HOUSE + "draw 8;");
        due("house() with a second draw", x.house(), -1);
        due("about(10)", x.about(10), 0);
        due("about(4)", x.about(4), 1);
        due("about(6)", x.about(6), 2);
        due("about(8)", x.about(8), 1);
        due("about(12)", x.about(12), 8);
        due("trunk(0, 0)", x.trunk(0, 0), 9);
        due("back(1)", x.back(1), 1);
        x.tell(0);
        Texts.feed(x, HOUSE);
        due("house()", x.house(), 4);
        int[] about = {4, 2, 15, 3, 0, 7, 0, 0, 0, 7, 0, 0, 0, 2, 4};
        for (int i = 0; i < about.length; i++) {
            due("about(" + i + ")", x.about(i), about[i]);
        }
        due("trunk(0, 0)", x.trunk(0, 0), 8);
        due("trunk(0, 3)", x.trunk(0, 3), 2);
        due("trunk(1, 4)", x.trunk(1, 4), 0);
        due("lies(0)", x.lies(0), -2);
        for (int i = 0; i < 3; i++) {
            due("back(" + i + ")", x.back(i), -1);
        }
        due("house() of nothing", x.house(), 0);
        due("about(1)", x.about(1), 0);
        due("about(5)", x.about(5), 0);
        due("about(13)", x.about(13), 3);
        due("about(14)", x.about(14), 0);
        due("about(9)", x.about(9), 7);
        // nothing of the HOUSE ahead is left in the next one
        x = told(PAIR + "draw 7;brood bulk;");
        x.year();
        x.lose(1);
        x.held(0, 3, true);
        x.untell(0);
        Texts.house(x, "brood bulk;");
        due("about(11)", x.about(11), 1);
        due("about(3)", x.about(3), 0);
        due("about(5)", x.about(5), 0);
        Texts.house(x, "room s holds 9;trunk d bulk 1 at s marks 1;trunk e bulk 1 at s marks 1;trunk f bulk 1 at s marks 1;");
        due("about(11)", x.about(11), 0);
        for (int t = 0; t < 3; t++) {
            int[] told = {1, 0, 1, 0, 0, -1, -1};
            for (int w = 0; w < 7; w++) {
                due("trunk(" + t + ", " + w + ")", x.trunk(t, w), told[w]);
            }
        }
        due("brood(0, 1) untold", x.brood(0, 1), 6 - 3);
        due("held", x.held(0, 0, true), 0);
        due("untell(0)", x.untell(0), true);
    }

    private static void promise5Tokens() {
        promise = 5;
        fault("", 0, -1);
        fault(" \n ", 0, -1);
        fault("\t", 1, 0);
        fault("room a holds 5;\rx", 1, 15);
        fault("ROOM a", 1, 0);
        fault("room abcdefgh holds 5;", 0, -1);
        fault("room abcdefghi holds 5;", 1, 5);
        fault("room a holds 00099;", 1, 13);
        fault("room a holds 0099;", 0, -1);
        fault("room a holds 5b;", 1, 13);
        fault("room a holds5;", 0, -1);
        fault("room a5holds", 1, 6);
        fault("rooma holds 5;", 2, 0);
        fault("room\na\nholds\n5\n;\n", 0, -1);
        fault("room a holds 5 ;?", 1, 16);
        fault("room ? 5", 1, 5);
        fault("brood 1!", 1, 7);
        fault("room a holds " + (char) 200, 1, 13);
    }

    private static void promise5Standing() {
        promise = 5;
        fault("room", 2, 4);
        fault("room  ", 2, 6);
        fault("room a holds 5", 2, 14);
        fault("room a holds;", 2, 12);
        fault("room 5 holds 5;", 2, 5);
        fault("a", 2, 0);
        fault(";", 2, 0);
        fault("pines 3;;", 2, 8);
        fault("holds 5;", 2, 0);
        fault("room a holds 5 told 4;", 2, 15);
        fault("room a holds 5;trunk t bulk 1 marks 1 at a;", 2, 30);
        fault("room a holds 5;trunk t bulk 1 at a marks 1 told;", 2, 47);
        fault("room a holds 5;trunk t bulk 1 at a marks 1 2;", 2, 43);
        fault("room a holds 5;trunk t bulk 1 at 5 marks 1;", 2, 33);
        fault("room a holds 5;trunk t bulk 1 at at marks 1;", 2, 33);
        fault("pines 3;pines 3;", 2, 8);
        fault("tales 3;draw 1;tales 3;", 2, 15);
        fault("draw 3;draw 3;", 2, 7);
        fault("brood 1;brood 1;", 2, 8);
        fault("brood ;", 2, 6);
        fault("room a holds 1;room b holds 1;room c holds 1;room d holds 1;", 0, -1);
        fault("room a holds 1;room b holds 1;room c holds 1;room d holds 1;room ?", 2, 60);
        StringBuilder six = new StringBuilder("room a holds 7;");
        for (char c = 'a'; c < 'g'; c++) {
            six.append("trunk ").append(c).append(" bulk 1 at a marks 1;");
        }
        fault(six.toString(), 0, -1);
        fault(six + "trunk g bulk 1 at a marks 1;", 2, six.length());
    }

    private static void promise5Names() {
        promise = 5;
        for (String word : ("room holds trunk bulk at marks told brood pines tales draw or and not alike left many "
            + "year").split(" ")) {
            fault("room " + word + " holds 5;", 2, 5);
            fault("room a holds 5;trunk " + word + " bulk 5 at a marks 1;", 2, 21);
        }
        for (String word : "house line e both one sum term unit rooms".split(" ")) {
            fault("room " + word + " holds 5;trunk " + word + " bulk 5 at " + word + " marks 1;", 0, -1);
        }
        fault("room a holds 5;room a holds 200;", 3, 20);
        fault("room a holds 9;trunk b bulk 1 at a marks 1;trunk b bulk 99", 3, 49);
        fault("room a holds 9;trunk b bulk 1 at b marks 1;", 5, 33);
        fault("trunk b bulk 1 at a marks 1;room a holds 9;", 5, 18);
        fault("room a holds 9;trunk b bulk 9 at a marks 1;", 0, -1);
        fault("room a holds 9;trunk b bulk 10 at a marks 1;", 3, 34);
        fault("room a holds 9;trunk b bulk 5 at a marks 1;trunk c bulk 4 at a marks 1;", 0, -1);
        fault("room a holds 9;trunk b bulk 5 at a marks 1;trunk c bulk 5 at a marks 1;", 3, 61);
        fault("room a holds 9;room b holds 3;trunk c bulk 5 at b", 3, 48);
        fault("room a holds 9;trunk b bulk 21 at z marks 64;", 4, 28);
        fault("room z holds 1;room zz holds 1;room az holds 1;room za holds 1;", 0, -1);
        fault("room a holds 1;room aa holds 1;room b holds 1;room bb holds 1;", 0, -1);
        fault("room aaaaaaaa holds 1;room baaaaaaa holds 1;room aaaaaaab holds 1;", 0, -1);
    }

    private static void promise5Numbers() {
        promise = 5;
        fault("room a holds 99;room b holds 0;", 0, -1);
        fault("room a holds 100;", 4, 13);
        fault("room a holds 9;trunk b bulk 0 at a marks 1;", 4, 28);
        fault("room a holds 99;trunk b bulk 20 at a marks 63 told 9;", 0, -1);
        fault("room a holds 99;trunk b bulk 21 at a marks 1;", 4, 29);
        fault("room a holds 99;trunk b bulk 20 at a marks 64;", 4, 43);
        fault("room a holds 99;trunk b bulk 20 at a marks 0 told 10;", 4, 50);
        fault("room a holds 99;trunk b bulk 20 at a marks 0 told 0;", 0, -1);
        fault("pines 0;", 4, 6);
        fault("pines 1;tales 0;draw 0;", 0, -1);
        fault("pines 9;tales 99;draw 999;", 0, -1);
        fault("pines 10;", 4, 6);
        fault("tales 100;", 4, 6);
        fault("draw 1000;", 4, 5);
        fault("brood 9999;", 0, -1);
        fault("pines -1;", 2, 6);
        TrunkLitters x = new TrunkLitters();
        Texts.house(x, "pines 0;");
        due("fault(2)", x.fault(2), -1);
        due("fault(-1)", x.fault(-1), -1);
        due("house()", Texts.house(x, "pines 1;"), 0);
        due("fault(0)", x.fault(0), 0);
        due("fault(1)", x.fault(1), -1);
    }

    private static void promise5Units() {
        promise = 5;
        String thirty = "brood 1" + "+1".repeat(29);
        fault(thirty + ";", 0, -1);
        fault(thirty + "+1;", 2, thirty.length() + 1);
        fault(thirty + "+(", 2, thirty.length() + 1);
        fault(thirty + "+?", 1, thirty.length() + 1);
        // a unit ( e ) is one, and so is each within it
        String nested = "brood (1" + "+1".repeat(28);
        fault(nested + ");", 0, -1);
        fault(nested + "+1);", 2, nested.length() + 1);
        due("about(11)", told("brood (bulk + 2) * not 1;".replace("* not 1", "and not 1")).about(11), 4);
        fault("brood (((((((1)))))));", 0, -1);
        fault("brood ((((((((1))))))));", 2, 13);
        fault("brood not not not not not not not 1;", 0, -1);
        fault("brood not not not not not not not not 1;", 2, 34);
        fault("brood not (not (not (not 1)));", 0, -1);
        fault("brood not (not (not (not (1))));", 2, 25);
        fault("brood not (not (not (not not 1)));", 2, 25);
        // what is closed, or behind a one's end, is not around
        fault("brood (((((((1)))))))+(((((((1)))))));", 0, -1);
        fault("brood not not not not not not not 1 and not not not not not not not 1 or (((((((1)))))));", 0, -1);
        fault("brood 1 + not 1;", 2, 10);
        fault("brood 1 < 2 < 3;", 2, 12);
        fault("brood (1 < 2) < 3;", 0, -1);
        fault("brood (1;", 2, 8);
        fault("brood 1);", 2, 7);
        fault("brood ();", 2, 7);
        fault("brood - 1;", 2, 6);
        fault("brood 1 2;", 2, 8);
        fault("brood 1 or;", 2, 10);
        fault("brood told;", 2, 6);
        fault("brood a;", 2, 6);
        fault("brood 1 <= 2;", 2, 9);
    }

    private static void promises6And7() {
        promise = 6;
        TrunkLitters x = told(HOUSE);
        int[][] rooms = {{30, 10, 7}, {12, 7, 8}};
        for (int r = 0; r < 2; r++) {
            for (int w = 0; w < 3; w++) {
                due("room(" + r + ", " + w + ")", x.room(r, w), rooms[r][w]);
            }
        }
        due("room(0, 3)", x.room(0, 3), -1);
        due("room(0, -1)", x.room(0, -1), -1);
        due("room(2, 0)", x.room(2, 0), -1);
        due("room(-1, 0)", x.room(-1, 0), -1);
        promise = 7;
        int[][] trunks = {{8, 0, 5, 2, 0, -1, -1}, {6, 0, 7, 0, 0, -1, -1}, {6, 0, 0, 1, 0, -1, -1},
            {5, 1, 63, 0, 0, -1, -1}};
        for (int t = 0; t < 4; t++) {
            for (int w = 0; w < 7; w++) {
                due("trunk(" + t + ", " + w + ")", x.trunk(t, w), trunks[t][w]);
            }
        }
        due("trunk(0, 7)", x.trunk(0, 7), -2);
        due("trunk(0, -1)", x.trunk(0, -1), -2);
        due("trunk(4, 0)", x.trunk(4, 0), -2);
        due("trunk(8, 0)", x.trunk(8, 0), -2);
        due("trunk(-1, 0)", x.trunk(-1, 0), -2);
    }

    private static void promise8() {
        promise = 8;
        TrunkLitters x = told(HOUSE);
        due("brood(0, 1)", x.brood(0, 1), 5 - 4);
        due("brood(2, 1)", x.brood(2, 1), 3 - 4);
        due("brood(0, 3)", x.brood(0, 3), -1000000000);
        due("brood(0, 0)", x.brood(0, 0), -1000000000);
        due("brood(0, 4)", x.brood(0, 4), -1000000000);
        due("brood(8, 0)", x.brood(8, 0), -1000000000);
        due("brood(-1, 0)", x.brood(-1, 0), -1000000000);
        x.year();
        due("brood(0, 1) while one pines", x.brood(0, 1), 5 - 4);
        x.lose(3);
        due("brood(0, 1) of three", x.brood(0, 1), 5 - 3);
    }

    private static int comes(String formula) {
        TrunkLitters x = told("room r holds 40; trunk a bulk 8 at r marks 40 told 9; trunk b bulk 9 at r marks 21;"
            + "brood " + formula + ";");
        return x.brood(1, 0);
    }

    private static void promise8Formulas() {
        promise = 8;
        due("bulk", comes("bulk"), 17);
        due("alike", comes("alike"), 1);
        due("left", comes("left"), 23);
        due("many", comes("many"), 2);
        due("year", comes("year"), 0);
        due("0042", comes("0042"), 42);
        due("-", comes("10 - 3 - 2"), 5);
        due("/", comes("100 / 7 / 2"), 7);
        due("/ cut", comes("(2 - 9) / 2"), -3);
        due("% cut", comes("(2 - 9) % 4"), -3);
        due("/ 0", comes("5 / 0"), 0);
        due("% 0", comes("5 % (many - 2)"), 0);
        due("*", comes("2 + 3 * 4 - 20 % 6"), 12);
        due("( )", comes("(2 + 3) * 4"), 20);
        due("wrap", comes("9999*9999*9999"), (int) (9999L * 9999 * 9999));
        due("least / -1", comes("64*64*64*64*64*2 / (0 - 1)"), Integer.MIN_VALUE);
        due("least % -1", comes("64*64*64*64*64*2 % (0 - 1)"), 0);
        due("<", comes("1 < 2"), 1);
        due("< like", comes("2 < 2"), 0);
        due(">", comes("3 > 2"), 1);
        due("> like", comes("2 > 2"), 0);
        due("=", comes("1 + 1 = many"), 1);
        due("= not", comes("1 = many"), 0);
        due("not", comes("not 5"), 0);
        due("not not", comes("not not 5"), 1);
        due("not relation", comes("not 1 > 2"), 1);
        due("and", comes("5 and 7"), 1);
        due("and 0", comes("5 and 0"), 0);
        due("or", comes("0 or 9"), 1);
        due("or 0", comes("0 or 0"), 0);
        due("or behind and", comes("1 or 1 and 0"), 1);
        due("and ahead of or", comes("0 and 1 or 1"), 1);
        due("not ahead of and", comes("not 0 and 0"), 0);
        due("below 0 is not 0", comes("0 - 1 and 1"), 1);
        due("not of below 0", comes("not (0 - 1)"), 0);
        TrunkLitters x = told(PAIR + "brood year;");
        x.year();
        x.year();
        due("year behind two", x.brood(0, 1), 2);
    }

    private static void promise9() {
        promise = 9;
        TrunkLitters x = told("room r holds 90; room s holds 9;trunk a bulk 5 at r marks 1 told 9;"
            + "trunk b bulk 9 at r marks 2 told 9;trunk c bulk 9 at r marks 3 told 1; trunk d bulk 12 at r marks 4;"
            + "trunk e bulk 9 at s marks 5;brood 0;pines 9;");
        due("couple(0)", x.couple(0), 3 * 8 + 1);
        due("couple(1)", x.couple(1), -1);
        due("couple(2)", x.couple(2), -1);
        due("couple(-1)", x.couple(-1), -1);
        x.year();
        due("couple(0) with one that pines", x.couple(0), 1 * 8 + 2);
        x.year();
        due("couple(0) with two that pine", x.couple(0), 1 * 8 + 0);
        x.lose(0);
        due("couple(0) with one left", x.couple(0), -1);
    }

    private static void promise10Listening() {
        promise = 10;
        TrunkLitters x = told("room r holds 20; trunk a bulk 20 at r marks 1 told 2; pines 3;");
        int[][] toldAndPines = {{1, 0}, {0, 0}, {0, 1}, {0, 2}};
        for (int i = 0; i < 4; i++) {
            due("year()", x.year(), 0);
            due("about(4)", x.about(4), i + 1);
            due("trunk(0, 3)", x.trunk(0, 3), toldAndPines[i][0]);
            due("trunk(0, 4)", x.trunk(0, 4), toldAndPines[i][1]);
        }
        due("year()", x.year(), 0);
        due("about(0)", x.about(0), 0);
        due("about(6)", x.about(6), 5);
        x = told("room r holds 20; trunk a bulk 20 at r marks 1; pines 3;tales 5;");
        x.year();
        x.year();
        x.tell(0);
        x.year();
        due("trunk(0, 4) when told", x.trunk(0, 4), 0);
        due("trunk(0, 3) when told", x.trunk(0, 3), 0);
    }

    private static void promise10Growing() {
        promise = 10;
        // 3 LEFT: a pines, b has 20, c and e grow, f finds 1, then none is left for g
        TrunkLitters x = told("room r holds 50; room s holds 9; trunk a bulk 1 at r marks 1;"
            + "trunk b bulk 20 at r marks 1 told 9;trunk c bulk 9 at r marks 1 told 9;trunk d bulk 9 at s marks 1 told 9;"
            + "trunk e bulk 9 at r marks 1 told 9;trunk f bulk 9 at r marks 1 told 9;brood 0;pines 9;");
        due("room(0, 1)", x.room(0, 1), 2);
        x.year();
        int[] bulks = {1, 20, 10, 9, 10, 9};
        for (int t = 0; t < 6; t++) {
            due("trunk(" + t + ", 0)", x.trunk(t, 0), bulks[t]);
        }
        // what falls apart leaves room in the same YEAR
        x = told("room r holds 12; trunk a bulk 8 at r marks 1 told 9; trunk b bulk 4 at r marks 1; pines 1;brood 0;");
        x.year();
        due("trunk(0, 0)", x.trunk(0, 0), 9);
        due("about(2)", x.about(2), 1);
    }

    private static void promise10Bringing() {
        promise = 10;
        TrunkLitters x = told(PAIR + "draw 7;brood bulk > 17;");
        // grown to 9 and 10 ahead: 19, a quarter is 4; the one told first is b; SEED 7 * 137 + 71 = 1030, so 30
        due("year()", x.year(), 4);
        int[] young = {4, 0, 30 & 21 | ~30 & 42, 0, 0, 1, 0};
        for (int w = 0; w < 7; w++) {
            due("trunk(2, " + w + ")", x.trunk(2, w), young[w]);
        }
        due("about(5)", x.about(5), 30);
        due("about(4)", x.about(4), 1);
        x = told("room r holds 12; trunk a bulk 4 at r marks 42 told 9; trunk b bulk 4 at r marks 21 told 9; brood 1;");
        due("year(): 10 of 12, and 2 for the young one", x.year(), 4);
        due("trunk(2, 0)", x.trunk(2, 0), 2);
        x = told("room r holds 11; trunk a bulk 4 at r marks 42 told 9; trunk b bulk 4 at r marks 21 told 9; brood 1;");
        due("year(): 10 of 11, and 2 for the young one", x.year(), 0);
        due("about(5): not drawn", x.about(5), 0);
        x = told("room r holds 3; trunk a bulk 1 at r marks 42 told 9; trunk b bulk 1 at r marks 21 told 9; brood 1;");
        due("year(): all is full behind the growing", x.year(), 0);
        x = told("room r holds 3; trunk a bulk 2 at r marks 42; trunk b bulk 1 at r marks 21 told 9; brood 1;");
        due("year(): one pines", x.year(), 0);
        x = told(PAIR + "brood 0;");
        due("year(): BROOD 0", x.year(), 0);
        x = told(PAIR + "brood 0 - 1;");
        due("year(): BROOD below 0", x.year(), 0);
        x = told("room r holds 9; trunk a bulk 1 at r marks 1 told 9;trunk b bulk 1 at r marks 1 told 9; brood year;");
        due("year(): the year goes up behind", x.year(), 0);
        due("year(): of 3 and 3 a quarter is 1", x.year(), 4);
        due("trunk(2, 0)", x.trunk(2, 0), 1);
        x = told("room r holds 7; trunk a bulk 1 at r marks 1 told 9;trunk b bulk 1 at r marks 1 told 9; brood left > 4;");
        due("year(): left behind the growing is 3", x.year(), 0);
    }

    private static void promise10Seeds() {
        promise = 10;
        String two = "room r holds 60;room s holds 60;trunk a bulk 8 at r marks 63 told 9;trunk b bulk 8 at r marks 0 told 9;"
            + "trunk c bulk 8 at s marks 0 told 9;trunk d bulk 9 at s marks 63 told 9;";
        TrunkLitters x = told(two + "draw 999;brood 1;");
        due("year()", x.year(), 16 + 32);
        int one = (999 * 137 + 71) % 1000;
        int other = (one * 137 + 71) % 1000;
        due("about(5)", x.about(5), other);
        due("marks of the first room's", x.trunk(4, 2), one & 63);
        due("marks of the second room's", x.trunk(5, 2), other & 63);
        due("trunk(5, 5)", x.trunk(5, 5), 3);
        due("trunk(5, 6)", x.trunk(5, 6), 2);
        due("trunk(5, 1)", x.trunk(5, 1), 1);
        due("year()", x.year(), 64 + 128);
        due("year(): no place is free", x.year(), 0);
        x = told(two + "brood many < 5;");
        due("year(): many counts who came in the first room", x.year(), 16);
        x = told("room r holds 60;trunk a bulk 8 at r marks 63 told 9;trunk b bulk 8 at r marks 0;"
            + "trunk c bulk 7 at r marks 5 told 9; pines 1;brood 1;");
        due("year(): to the place of the one that fell apart", x.year(), 2);
        due("trunk(1, 5)", x.trunk(1, 5), 0);
        due("trunk(1, 6)", x.trunk(1, 6), 2);
        due("trunk(1, 0)", x.trunk(1, 0), 4);
        x.year();
        due("about(2): young ones are told none", x.about(2), 1 + 2 + 4);
        due("trunk(1, 5): another one", x.trunk(1, 5), 0);
        due("trunk(1, 0): of 10 and 9", x.trunk(1, 0), 4);
    }

    private static void promise10AtTheFirstPlace() {
        promise = 10;
        TrunkLitters x = told("room r holds 60;room s holds 60;trunk a bulk 8 at s marks 63 told 9;"
            + "trunk b bulk 8 at r marks 42 told 9;trunk c bulk 7 at r marks 21 told 9;brood 1;draw 7;tales 9;");
        x.lose(0);
        due("year(): the first place is free", x.year(), 1);
        int[] young = {4, 0, 30 & 42 | ~30 & 21, 0, 0, 1, 2};
        for (int w = 0; w < 7; w++) {
            due("trunk(0, " + w + ")", x.trunk(0, w), young[w]);
        }
        due("line(0)", x.line(0), 6);
        due("litter(1)", x.litter(1), 1);
        x.year();
        due("pining()", x.pining(), 1);
        x.lose(2);
        due("trunk(0, 6)", x.trunk(0, 6), -1);
        due("trunk(0, 5)", x.trunk(0, 5), 1);
        due("undo()", x.undo(), true);
        due("trunk(0, 6)", x.trunk(0, 6), 2);
        due("litter(2)", x.litter(2), 1 + 8);
        due("undo()", x.undo(), true);
        due("undo()", x.undo(), true);
        due("redo()", x.redo(), true);
        due("trunk(0, 6)", x.trunk(0, 6), 2);
    }

    private static void promise11() {
        promise = 11;
        TrunkLitters x = told(HOUSE);
        due("carry(0, 1): 7 LEFT for 8", x.carry(0, 1), -1);
        due("carry(0, 0): it is there", x.carry(0, 0), -1);
        due("carry(0, 2)", x.carry(0, 2), -1);
        due("carry(0, -1)", x.carry(0, -1), -1);
        due("carry(4, 1)", x.carry(4, 1), -1);
        due("carry(-1, 1)", x.carry(-1, 1), -1);
        due("about(6)", x.about(6), 0);
        due("carry(1, 1)", x.carry(1, 1), 0);
        due("trunk(1, 1)", x.trunk(1, 1), 1);
        due("room(1, 1)", x.room(1, 1), 1);
        due("about(6)", x.about(6), 1);
        due("carry(3, 0)", x.carry(3, 0), 1);
        due("room(0, 1)", x.room(0, 1), 11);
        x = told("room r holds 9;room s holds 9;trunk a bulk 9 at r marks 1;");
        due("carry(0, 1): all of it", x.carry(0, 1), 0);
    }

    private static void promise12() {
        promise = 12;
        TrunkLitters x = told("room r holds 9;trunk a bulk 9 at r marks 1 told 7;tales 3;");
        due("tell(1)", x.tell(1), -1);
        due("tell(-1)", x.tell(-1), -1);
        due("tell(0)", x.tell(0), 8);
        due("tell(0)", x.tell(0), 9);
        due("about(3)", x.about(3), 1);
        due("tell(0) of 9", x.tell(0), -1);
        due("about(3)", x.about(3), 1);
        due("about(6)", x.about(6), 2);
        x.year();
        due("tell(0)", x.tell(0), 9);
        x.year();
        due("tell(0) without tales", x.tell(0), -1);
        due("about(3)", x.about(3), 0);
    }

    private static void promise13() {
        promise = 13;
        TrunkLitters x = told(PAIR + "brood bulk;");
        x.year();
        due("trunk(2, 5)", x.trunk(2, 5), 1);
        due("trunk(2, 6)", x.trunk(2, 6), 0);
        due("lose(3)", x.lose(3), -1);
        due("lose(-1)", x.lose(-1), -1);
        due("lose(8)", x.lose(8), -1);
        due("lose(1)", x.lose(1), 10);
        due("lose(1) again", x.lose(1), -1);
        due("trunk(1, 0)", x.trunk(1, 0), -2);
        due("trunk(2, 5)", x.trunk(2, 5), -1);
        due("trunk(2, 6)", x.trunk(2, 6), 0);
        due("room(0, 1)", x.room(0, 1), 40 - 9 - 4);
        due("about(6)", x.about(6), 2);
        x.tell(2);
        due("year()", x.year(), 2);
        due("trunk(2, 5): whoever comes there", x.trunk(2, 5), -1);
        due("trunk(1, 5)", x.trunk(1, 5), 0);
        due("trunk(1, 6)", x.trunk(1, 6), 2);
    }

    private static void promises14And15() {
        promise = 14;
        TrunkLitters x = told(PAIR + "draw 7;brood bulk;");
        due("undo()", x.undo(), false);
        x.year();
        x.tell(0);
        x.lose(1);
        due("undo()", x.undo(), true);
        due("trunk(1, 0)", x.trunk(1, 0), 10);
        due("trunk(2, 5): it is its parent again", x.trunk(2, 5), 1);
        due("undo()", x.undo(), true);
        due("about(3)", x.about(3), 9);
        due("undo()", x.undo(), true);
        due("about(5)", x.about(5), 7);
        due("about(2)", x.about(2), 3);
        due("about(4)", x.about(4), 0);
        due("about(7)", x.about(7), 3);
        due("undo()", x.undo(), false);
        promise = 15;
        due("redo()", x.redo(), true);
        due("about(2)", x.about(2), 7);
        due("about(5)", x.about(5), 30);
        due("redo()", x.redo(), true);
        due("about(3)", x.about(3), 8);
        due("carry(0, 5) does nothing", x.carry(0, 5), -1);
        due("about(7)", x.about(7), 1);
        due("tell(0)", x.tell(0), -1);
        due("tell(1)", x.tell(1), 9);
        due("redo() behind another ACT", x.redo(), false);
        due("about(7)", x.about(7), 0);
        due("about(6)", x.about(6), 3);
        promise = 14;
        x = told("room r holds 9;room s holds 9;trunk a bulk 9 at r marks 1;");
        for (int i = 0; i < 43; i++) {
            x.carry(0, 1 - i % 2);
        }
        due("about(6)", x.about(6), 40);
        int count = 0;
        while (count < 60 && x.undo()) {
            count++;
        }
        due("40 at most", count, 40);
        due("trunk(0, 1): behind three", x.trunk(0, 1), 1);
        due("about(7)", x.about(7), 40);
        count = 0;
        while (count < 60 && x.redo()) {
            count++;
        }
        due("40 again", count, 40);
        due("trunk(0, 1)", x.trunk(0, 1), 1);
        for (int i = 0; i < 47; i++) {
            x.year();
        }
        for (int i = 46; i >= 7; i--) {
            due("undo()", x.undo(), true);
            due("about(4)", x.about(4), i);
        }
        due("undo()", x.undo(), false);
        for (int i = 8; i <= 47; i++) {
            due("redo()", x.redo(), true);
            due("about(4)", x.about(4), i);
        }
        due("redo()", x.redo(), false);
    }

    private static void promise16() {
        promise = 16;
        TrunkLitters x = told(PAIR + "draw 7;brood bulk;pines 9;");
        due("will(0, 0, 0)", x.will(0, 0, 0), 8);
        due("will(0, 1, 0)", x.will(0, 1, 0), 9);
        due("will(2, 0, 0)", x.will(2, 0, 0), -1);
        due("will(2, 1, 0)", x.will(2, 1, 0), 4);
        due("will(2, 1, 1)", x.will(2, 1, 1), 30 & 21 | ~30 & 42);
        due("will(0, 30, 0)", x.will(0, 30, 0), -1);
        due("will(0, 17, 1)", x.will(0, 17, 1), 42);
        due("will(0, 18, 1)", x.will(0, 18, 1), -1);
        due("will(0, 31, 0)", x.will(0, 31, 0), -1);
        due("will(0, -1, 0)", x.will(0, -1, 0), -1);
        due("will(0, 1, 2)", x.will(0, 1, 2), -1);
        due("will(0, 1, -1)", x.will(0, 1, -1), -1);
        due("will(8, 1, 0)", x.will(8, 1, 0), -1);
        due("will(-1, 1, 0)", x.will(-1, 1, 0), -1);
        due("nothing is done", x.about(4) + x.about(6), 0);
        due("about(5)", x.about(5), 7);
    }

    private static void promise17() {
        promise = 17;
        TrunkLitters x = told(HOUSE);
        due("alive(0)", x.alive(0), 15);
        due("alive(1)", x.alive(1), 15);
        due("alive(2)", x.alive(2), 5);
        due("alive(3)", x.alive(3), 1);
        due("alive(4)", x.alive(4), 0);
        due("alive(30)", x.alive(30), 0);
        due("alive(31)", x.alive(31), -1);
        due("alive(-1)", x.alive(-1), -1);
        due("about(2)", x.about(2), 15);
    }

    private static void lie(TrunkLitters x, int... due) {
        for (int i = 0; i < due.length; i++) {
            due("lies(" + i + ")", x.lies(i), due[i]);
        }
        due("about(12)", x.about(12), due.length);
        due("lies(" + due.length + ")", x.lies(due.length), -2);
    }

    private static void promise18() {
        promise = 18;
        TrunkLitters x = told(HOUSE);
        due("pack()", x.pack(), 1);
        lie(x, 0, 0, 0, 0, -1, -1, -1, -1);
        // 10, 7, 6, 5, 3 in rooms of 12, 10, 20, 11: two must be, 31 in all; the first is 12 and 20
        x = told("room r holds 12;room s holds 10;room t holds 20;room u holds 11;trunk a bulk 10 at s marks 1;"
            + "trunk b bulk 7 at t marks 1;trunk c bulk 6 at u marks 1;trunk d bulk 5 at r marks 1;"
            + "trunk e bulk 3 at t marks 1;");
        due("pack()", x.pack(), 2);
        lie(x, 2, 0, 2, 0, 2, -1, -1, -1);
        x.lose(3);
        x.lose(0);
        due("pack()", x.pack(), 1);
        lie(x, -1, 2, 2, -1, 2, -1, -1, -1);
        x.lose(1);
        due("pack()", x.pack(), 1);
        lie(x, -1, -1, 0, -1, 0, -1, -1, -1);
        x.lose(2);
        x.lose(4);
        due("pack()", x.pack(), 0);
        lie(x, -1, -1, -1, -1, -1, -1, -1, -1);
        x = told("room r holds 3;room s holds 3;room t holds 3;room u holds 3;trunk a bulk 2 at u marks 1;"
            + "trunk b bulk 2 at t marks 1;trunk c bulk 2 at s marks 1;trunk d bulk 2 at r marks 1;trunk e bulk 1 at r marks 1;");
        due("pack()", x.pack(), 4);
        lie(x, 0, 1, 2, 3, 0, -1, -1, -1);
    }

    private static void promise19() {
        promise = 19;
        TrunkLitters x = told(HOUSE);
        due("fill(0, 0)", x.fill(0, 0), 25);
        due("fill(0, 1)", x.fill(0, 1), 15);
        due("fill(1, 0): 6 and 6", x.fill(1, 0), 12);
        due("fill(1, 1)", x.fill(1, 1), 6);
        due("fill(2, 0)", x.fill(2, 0), -1);
        due("fill(-1, 0)", x.fill(-1, 0), -1);
        due("fill(0, 2)", x.fill(0, 2), -1);
        due("fill(0, -1)", x.fill(0, -1), -1);
        x = told("room r holds 90;room s holds 9;room t holds 2;room u holds 0;trunk a bulk 4 at r marks 1;"
            + "trunk b bulk 3 at r marks 1;trunk c bulk 5 at r marks 1;trunk d bulk 9 at r marks 1;"
            + "trunk e bulk 9 at r marks 1;trunk f bulk 6 at r marks 1;");
        due("fill(1, 0)", x.fill(1, 0), 9);
        due("fill(1, 1): the fewest, then the least", x.fill(1, 1), 8);
        x.lose(3);
        due("fill(1, 1): one", x.fill(1, 1), 16);
        x.lose(4);
        due("fill(1, 1): 4 and 5, not 3 and 6", x.fill(1, 1), 5);
        due("fill(2, 0): none can", x.fill(2, 0), 0);
        due("fill(2, 1)", x.fill(2, 1), 0);
        due("fill(3, 1)", x.fill(3, 1), 0);
        due("fill(0, 1): all", x.fill(0, 1), 1 + 2 + 4 + 32);
        x = told("room r holds 9;room s holds 1;trunk a bulk 1 at r marks 1;trunk b bulk 2 at r marks 1;");
        due("fill(1, 0): the first one alone", x.fill(1, 0), 1);
        due("fill(1, 1)", x.fill(1, 1), 1);
    }

    private static void promise20() {
        promise = 20;
        TrunkLitters x = told(HOUSE);
        due("sires(1, 0)", x.sires(1, 0), 0);
        due("sires(1, 1)", x.sires(1, 1), 3);
        due("sires(1, 2)", x.sires(1, 2), 0);
        due("sires(3, 0): 5 and 7 leave 56", x.sires(3, 0), 0);
        due("sires(3, 1)", x.sires(3, 1), 1);
        due("sires(3, 2)", x.sires(3, 2), 3);
        due("sires(3, 3)", x.sires(3, 3), -1);
        due("sires(3, -1)", x.sires(3, -1), -1);
        due("sires(4, 0)", x.sires(4, 0), -1);
        due("sires(-1, 0)", x.sires(-1, 0), -1);
        x.lose(1);
        due("sires(3, 2): 5 and 0", x.sires(3, 2), 4);
        x.lose(0);
        due("sires(3, 0): one other", x.sires(3, 0), -1);
        x = told(HOUSE);
        due("sires(0, 0)", x.sires(0, 0), 1);
        due("sires(0, 1)", x.sires(0, 1), 2);
        x = told("room r holds 9;trunk a bulk 1 at r marks 63;trunk b bulk 1 at r marks 0;trunk c bulk 1 at r marks 0;");
        due("sires(0, 2): all six", x.sires(0, 2), 6);
    }

    private static void promise21() {
        promise = 21;
        TrunkLitters x = told(HOUSE);
        // marks 5, 7, 0, 63: bits 0 and 2 are 1101, bit 1 is 0101, bits 3 to 5 are 0001
        due("quartet(0, 1, 2, 3, 0)", x.quartet(0, 1, 2, 3, 0), 1);
        due("quartet(0, 1, 2, 3, 1)", x.quartet(0, 1, 2, 3, 1), 6);
        due("quartet(0, 2, 1, 3, 0)", x.quartet(0, 2, 1, 3, 0), 0);
        due("quartet(0, 1, 3, 2, 0)", x.quartet(0, 1, 3, 2, 0), 2);
        due("quartet(0, 1, 3, 2, 1)", x.quartet(0, 1, 3, 2, 1), 6);
        due("quartet(0, 1, 2, 2, 0)", x.quartet(0, 1, 2, 2, 0), -1);
        due("quartet(3, 1, 2, 3, 0)", x.quartet(3, 1, 2, 3, 0), -1);
        due("quartet(0, 1, 2, 4, 0)", x.quartet(0, 1, 2, 4, 0), -1);
        due("quartet(-1, 1, 2, 3, 0)", x.quartet(-1, 1, 2, 3, 0), -1);
        due("quartet(0, 1, 2, 3, 2)", x.quartet(0, 1, 2, 3, 2), -1);
        due("quartet(0, 1, 2, 3, -1)", x.quartet(0, 1, 2, 3, -1), -1);
        x = told("room r holds 90;trunk a bulk 1 at r marks 9;trunk b bulk 1 at r marks 9;trunk c bulk 1 at r marks 9;"
            + "trunk d bulk 1 at r marks 9;trunk e bulk 1 at r marks 6;trunk f bulk 1 at r marks 6;");
        due("all alike", x.quartet(3, 2, 1, 0, 1), 0);
        due("of like ones the least", x.quartet(3, 2, 1, 0, 0), 0);
        due("two and two", x.quartet(0, 1, 4, 5, 1), 4);
        due("two and two", x.quartet(0, 1, 4, 5, 0), 0);
        due("two and two", x.quartet(0, 4, 5, 1, 0), 2);
        due("two and two", x.quartet(0, 4, 1, 5, 0), 1);
        x = told("room r holds 90;trunk a bulk 1 at r marks 3;trunk b bulk 1 at r marks 1;trunk c bulk 1 at r marks 2;"
            + "trunk d bulk 1 at r marks 0;");
        due("two and two either way", x.quartet(0, 1, 2, 3, 0), 0);
        due("two and two either way", x.quartet(0, 1, 2, 3, 1), 1 + 2);
    }

    private static void promise22() {
        promise = 22;
        TrunkLitters x = told(HOUSE);
        // 5 - 7: 1, 0 - 5: 2, 7 - 63: 3
        due("span()", x.span(), 6);
        x.lose(1);
        due("span()", x.span(), 2 + 4);
        x.lose(0);
        due("span()", x.span(), 6);
        x.lose(2);
        due("span() of one", x.span(), 0);
        x.lose(3);
        due("span() of none", x.span(), 0);
        x = told("room r holds 90;trunk a bulk 1 at r marks 0;trunk b bulk 1 at r marks 63;trunk c bulk 1 at r marks 3;"
            + "trunk d bulk 1 at r marks 60;trunk e bulk 1 at r marks 15;trunk f bulk 1 at r marks 15;");
        due("span()", x.span(), 2 + 2 + 2 + 2);
    }

    private static void promises23To25() {
        promise = 23;
        TrunkLitters x = told("room r holds 90;room s holds 40;trunk a bulk 8 at r marks 42 told 9;trunk b bulk 9 at r marks 21 told 9;"
            + "tales 50;brood bulk > 8;");
        due("year()", x.year(), 4);
        x.carry(2, 1);
        due("year()", x.year(), 8);
        x.carry(3, 1);
        for (int i = 0; i < 9; i++) {
            x.tell(2);
            x.tell(3);
        }
        due("year(): of 10 and 11, and of the young ones", x.year(), 16 + 32);
        // 5 is of 3 and 2 (3 has a bulk of 6, 2 one of 5), these are of 1 and 0
        due("trunk(5, 5)", x.trunk(5, 5), 3);
        due("trunk(5, 6)", x.trunk(5, 6), 2);
        due("line(5)", x.line(5), 1 + 2 + 4 + 8);
        due("line(4)", x.line(4), 3);
        due("line(0)", x.line(0), 0);
        due("line(6)", x.line(6), -1);
        due("line(-1)", x.line(-1), -1);
        promise = 24;
        due("litter(0)", x.litter(0), 4 + 8 + 16);
        due("litter(1)", x.litter(1), 4 + 8 + 16);
        due("litter(2)", x.litter(2), 32);
        due("litter(5)", x.litter(5), 0);
        due("litter(6)", x.litter(6), -1);
        due("litter(-1)", x.litter(-1), -1);
        promise = 25;
        due("kin(5, 5)", x.kin(5, 5), 0);
        due("kin(5, 3)", x.kin(5, 3), 1);
        due("kin(2, 3)", x.kin(2, 3), 2);
        due("kin(0, 5)", x.kin(0, 5), 2);
        due("kin(2, 5)", x.kin(2, 5), 1);
        due("kin(5, 4)", x.kin(5, 4), 3);
        due("kin(0, 1)", x.kin(0, 1), -1);
        due("kin(6, 6)", x.kin(6, 6), -1);
        due("kin(0, 6)", x.kin(0, 6), -1);
        due("kin(-1, 0)", x.kin(-1, 0), -1);
        x.lose(3);
        due("kin(5, 4) by 2", x.kin(5, 4), 3);
        due("line(5)", x.line(5), 1 + 2 + 4);
        x.lose(2);
        due("kin(5, 4)", x.kin(5, 4), -1);
        due("line(5)", x.line(5), 0);
    }

    private static void promise26() {
        promise = 26;
        TrunkLitters x = told(HOUSE);
        int[] due = {0, 0 + 1 + 0 + 1, 0 + 2 + 1 + 2, 1 + 3 + 2 + 3};
        for (int n = 0; n < due.length; n++) {
            due("need(" + n + ")", x.need(n), due[n]);
        }
        due("need(30)", x.need(30), 28 + 30 + 29 + 30);
        due("need(31)", x.need(31), -1);
        due("need(-1)", x.need(-1), -1);
        x.lose(1);
        due("need(2)", x.need(2), 0 + 1 + 2);
        due("need(3) of BULK 1", told("room r holds 1;trunk a bulk 1 at r marks 1 told 1;").need(3), 2);
    }

    private static void promise27() {
        promise = 27;
        // b would find its like in s; in r it stands alone
        TrunkLitters x = told("room r holds 40;room s holds 80;room t holds 3;trunk a bulk 8 at s marks 42 told 9;"
            + "trunk b bulk 9 at r marks 21 told 9;brood many < 3;");
        due("best(1, 0)", x.best(1, 0), 1);
        due("best(1, 1)", x.best(1, 1), 3);
        due("best(0, 0): r is less, of like ones", x.best(0, 0), 0);
        due("best(0, 1)", x.best(0, 1), 3);
        due("best(2, 0)", x.best(2, 0), -1);
        due("best(-1, 0)", x.best(-1, 0), -1);
        due("best(0, 2)", x.best(0, 2), -1);
        due("best(0, -1)", x.best(0, -1), -1);
        x.carry(1, 1);
        due("best(1, 0): its own", x.best(1, 0), 1);
        due("best(1, 1)", x.best(1, 1), 3);
        due("trunk(1, 1)", x.trunk(1, 1), 1);
        x = told("room r holds 4;room s holds 9;trunk a bulk 5 at s marks 1 told 9;trunk b bulk 4 at r marks 1 told 9;");
        due("best(0, 0): its own, though nothing is left for it elsewhere", x.best(0, 0), 1);
        due("best(0, 1)", x.best(0, 1), 2);
        due("best(1, 0): of like ones the least", x.best(1, 0), 0);
        x = told("room r holds 5;room s holds 9;trunk a bulk 5 at s marks 1 told 4;trunk b bulk 4 at s marks 1 told 5;"
            + "pines 1;brood 0;");
        due("best(0, 0): just so much is LEFT", x.best(0, 0), 0);
        due("best(0, 1): behind 5, not 4 or 6", x.best(0, 1), 1);
    }

    private static void promise28() {
        promise = 28;
        TrunkLitters x = told(HOUSE);
        due("rivals(0, 3)", x.rivals(0, 3), 1);
        lie(x, 0, 1);
        due("rivals(0, 0)", x.rivals(0, 0), -1);
        lie(x);
        x.pack();
        due("rivals(0, 4)", x.rivals(0, 4), -1);
        lie(x);
        due("rivals(-1, 0)", x.rivals(-1, 0), -1);
        // two rooms alike, both too small for two: each in its own, either way round
        x = told("room r holds 9;room s holds 9;trunk a bulk 8 at r marks 1;trunk b bulk 7 at s marks 1;");
        due("rivals(0, 1)", x.rivals(0, 1), 2);
        lie(x, 0, 1);
        due("rivals(1, 0)", x.rivals(1, 0), 2);
        lie(x, 0, 1);
        // one room far greater than the other: both there, 40 - 3 - 2 = 35 left for each
        x = told("room r holds 9;room s holds 40;trunk a bulk 3 at r marks 1;trunk b bulk 2 at r marks 1;");
        due("rivals(0, 1)", x.rivals(0, 1), 1);
        lie(x, 1, 1);
        // alone in s is 10 - 4; together would be 2, in r it is 6 - 4: so much too, and not more
        x = told("room r holds 6;room s holds 10;trunk a bulk 4 at r marks 1;trunk b bulk 4 at s marks 1;");
        due("rivals(0, 1)", x.rivals(0, 1), 3);
        lie(x, 0, 1);
        // in the one room that there is both cannot but stand
        x = told("room r holds 9;trunk a bulk 5 at r marks 1;trunk b bulk 4 at r marks 1;");
        due("rivals(0, 1)", x.rivals(0, 1), 1);
        lie(x, 0, 0);
        // a third one takes what it takes
        x = told("room r holds 20;room s holds 20;trunk a bulk 5 at s marks 1;trunk b bulk 5 at s marks 1;trunk c bulk 12 at r marks 1;");
        due("rivals(0, 1)", x.rivals(0, 1), 1);
        lie(x, 1, 1);
        // both in s cannot be, both in r have 0 left: each alone has more
        x = told("room r holds 12;room s holds 11;trunk a bulk 2 at r marks 1;trunk b bulk 10 at s marks 1;");
        due("rivals(0, 1)", x.rivals(0, 1), 2);
        lie(x, 0, 1);
    }

    private static void promise29() {
        promise = 29;
        TrunkLitters x = told(HOUSE);
        due("fading(0)", x.fading(0), 0);
        due("fading(1)", x.fading(1), 0);
        due("fading(2)", x.fading(2), 58);
        due("fading(30)", x.fading(30), 63);
        due("fading(31)", x.fading(31), -1);
        due("fading(-1)", x.fading(-1), -1);
        // 63 falls apart, 2 and 16 stay
        x = told("room r holds 40;trunk a bulk 3 at r marks 63;trunk b bulk 2 at r marks 2 told 9;"
            + "trunk c bulk 2 at r marks 16 told 9;pines 1;");
        due("fading(1)", x.fading(1), 63 - 18);
    }

    private static void promise30To33() {
        promise = 30;
        TrunkLitters x = told(HOUSE);
        int[][] alike = {{6, 5, 4, 2}, {5, 6, 3, 3}, {4, 3, 6, 0}, {2, 3, 0, 6}};
        for (int t = 0; t < 4; t++) {
            for (int o = 0; o < 4; o++) {
                due("alike(" + t + ", " + o + ")", x.alike(t, o), alike[t][o]);
            }
        }
        due("alike(0, 4)", x.alike(0, 4), -1);
        due("alike(-1, 0)", x.alike(-1, 0), -1);
        due("alike(8, 8)", x.alike(8, 8), -1);
        promise = 31;
        int[] like = {1, 0, 0, 1};
        for (int t = 0; t < 4; t++) {
            due("like(" + t + ")", x.like(t), like[t]);
        }
        due("like(4)", x.like(4), -1);
        due("like(-1)", x.like(-1), -1);
        promise = 32;
        due("odd(): 11, 11, 7, 5", x.odd(), 3);
        promise = 33;
        int[] bearers = {3, 2, 3, 1, 1, 1};
        for (int k = 0; k < 6; k++) {
            due("bearers(" + k + ")", x.bearers(k), bearers[k]);
        }
        due("bearers(6)", x.bearers(6), -1);
        due("bearers(-1)", x.bearers(-1), -1);
        x.lose(3);
        due("bearers(5)", x.bearers(5), 0);
        promise = 32;
        due("odd(): 9, 8, 7", x.odd(), 2);
        x.lose(2);
        due("odd(): like ones", x.odd(), 0);
        x.lose(0);
        due("odd(): one", x.odd(), 1);
        promise = 31;
        due("like(1): no other", x.like(1), -1);
        x.lose(1);
        promise = 32;
        due("odd(): none", x.odd(), -1);
        promise = 31;
        x = told("room r holds 40;trunk a bulk 3 at r marks 7;trunk b bulk 2 at r marks 3;trunk c bulk 2 at r marks 5;");
        due("like(0): of like ones the first", x.like(0), 1);
    }

    private static void promise34() {
        promise = 34;
        TrunkLitters x = told("room r holds 9;room s holds 20;room t holds 12;trunk a bulk 8 at s marks 1;");
        due("roomiest()", x.roomiest(), 1);
        x.year();
        due("roomiest()", x.roomiest(), 1);
        x.undo();
        x = told("room r holds 9;room s holds 20;room t holds 12;trunk a bulk 9 at s marks 1;");
        due("roomiest()", x.roomiest(), 2);
        x = told("room r holds 0;");
        due("roomiest() with none LEFT", x.roomiest(), 0);
        due("roomiest() without", new TrunkLitters().roomiest(), -1);
    }

    private static void promise35() {
        promise = 35;
        String two = "room r holds 60;room s holds 60;trunk a bulk 8 at r marks 63 told 1;trunk b bulk 8 at r marks 0;"
            + "trunk c bulk 8 at s marks 0 told 9;trunk d bulk 9 at s marks 63 told 9;";
        TrunkLitters x = told(two + "brood many < 5;");
        due("ripe(): each by itself", x.ripe(), 3);
        x.year();
        due("ripe()", x.ripe(), 0);
        x = told(two + "brood 1;pines 9;");
        x.year();
        due("ripe(): only one of r does not pine", x.ripe(), 2);
        x = told("room r holds 10;trunk a bulk 4 at r marks 1;trunk b bulk 4 at r marks 1;brood 1;");
        due("ripe(): just room for it", x.ripe(), 1);
        x = told("room r holds 9;trunk a bulk 4 at r marks 1;trunk b bulk 4 at r marks 1;brood 1;");
        due("ripe(): no room for it", x.ripe(), 0);
        x = told("room r holds 4;trunk a bulk 2 at r marks 1;trunk b bulk 1 at r marks 1;brood 1;");
        due("ripe(): 1 at least", x.ripe(), 1);
        x = told("room r holds 10;trunk a bulk 4 at r marks 1;trunk b bulk 4 at r marks 1;brood year;");
        due("ripe(): BROOD 0", x.ripe(), 0);
        x = told("room r holds 90;trunk a bulk 4 at r marks 1 told 9;trunk b bulk 4 at r marks 1 told 9;brood 1;pines 9;");
        for (int i = 0; i < 6; i++) {
            due("ripe()", x.ripe(), 1);
            x.year();
        }
        due("ripe(): no place is free", x.ripe(), 0);
        due("about(2)", x.about(2), 255);
        due("ripe() without rooms", new TrunkLitters().ripe(), 0);
    }

    private static void promise36() {
        promise = 36;
        TrunkLitters x = told(HOUSE);
        due("law(1, 1): two fall apart, and one comes", x.law(1, 1), 3);
        due("law(2, 1)", x.law(2, 1), 4);
        due("law(2, 2)", x.law(2, 2), 2);
        due("law(3, 2)", x.law(3, 2), 4);
        due("law(9, 9)", x.law(9, 9), 2);
        due("law(9, 8)", x.law(9, 8), 4);
        due("law(1, 0)", x.law(1, 0), 4);
        due("law(9, 30)", x.law(9, 30), 0);
        due("law(0, 1)", x.law(0, 1), -1);
        due("law(10, 1)", x.law(10, 1), -1);
        due("law(1, -1)", x.law(1, -1), -1);
        due("law(1, 31)", x.law(1, 31), -1);
        due("about(13)", x.about(13), 2);
        x = told("room r holds 9;trunk a bulk 4 at r marks 1;pines 9;");
        x.year();
        x.year();
        x.year();
        due("law(2, 1): longer than that already", x.law(2, 1), 0);
        due("law(4, 1)", x.law(4, 1), 0);
        due("law(5, 1)", x.law(5, 1), 1);
    }

    private static void promise37() {
        promise = 37;
        TrunkLitters x = told(HOUSE);
        due("pining()", x.pining(), 0);
        x.year();
        due("pining()", x.pining(), 10);
        x.lose(1);
        due("pining()", x.pining(), 8);
        x.tell(3);
        due("pining() till it listens", x.pining(), 8);
        x.year();
        due("pining()", x.pining(), 4);
    }

    private static void promise38() {
        promise = 38;
        TrunkLitters x = told(HOUSE);
        int[] gone = {4, 2, 3, 2, -1};
        for (int t = 0; t < 5; t++) {
            due("gone(" + t + ")", x.gone(t), gone[t]);
        }
        due("gone(-1)", x.gone(-1), -1);
        due("gone(8)", x.gone(8), -1);
        x = told("room r holds 60;trunk a bulk 8 at r marks 63 told 9;trunk b bulk 8 at r marks 0;"
            + "trunk c bulk 7 at r marks 5 told 9; pines 1;brood 1;");
        due("alive(1): one came there", x.alive(1), 7);
        due("gone(1)", x.gone(1), 1);
        x = told("room r holds 60;trunk a bulk 8 at r marks 63 told 9;trunk b bulk 8 at r marks 0;pines 9;tales 9;");
        due("gone(0)", x.gone(0), 18);
        due("gone(1)", x.gone(1), 9);
        due("about(4)", x.about(4), 0);
    }

    private static void promise39() {
        promise = 39;
        TrunkLitters x = told(HOUSE);
        due("lies(0)", x.lies(0), -2);
        x.pack();
        due("lies(-1)", x.lies(-1), -2);
        due("lies(8)", x.lies(8), -2);
        due("lies(7)", x.lies(7), -1);
        due("lies(MIN)", x.lies(Integer.MIN_VALUE), -2);
        x.year();
        x.undo();
        due("lies(3): it stays", x.lies(3), 0);
        x.rivals(0, 3);
        lie(x, 0, 1);
        x.pack();
        due("about(12)", x.about(12), 8);
    }

    private static void promise40() {
        promise = 40;
        TrunkLitters x = told(HOUSE);
        due("held(3): the last one", x.held(3, 1, true), -1);
        due("held(-1)", x.held(-1, 1, true), -1);
        due("held(4)", x.held(4, 1, true), -1);
        due("held many 7", x.held(0, 7, true), -1);
        due("held many -1", x.held(0, -1, true), -1);
        due("about(8)", x.about(8), 0);
        x.lose(0);
        for (int i = 0; i < 30; i++) {
            due("held " + i, x.held(i % 3, i % 7, i % 2 == 0), i);
        }
        due("held 30", x.held(0, 0, true), -1);
        due("untell(5)", x.untell(5), true);
        due("held 30", x.held(0, 0, true), -1);
        due("about(8)", x.about(8), 30);
        due("held with one told", told("room r holds 9;trunk a bulk 1 at r marks 1;").held(0, 1, true), -1);
        due("held with none told", new TrunkLitters().held(0, 1, true), -1);
        due("held with two told", told(PAIR).held(0, 6, false), 0);
    }

    private static void promise41And42() {
        promise = 41;
        TrunkLitters x = told(HOUSE);
        due("untell(0)", x.untell(0), false);
        x.held(0, 2, true);
        due("untell(1)", x.untell(1), false);
        due("untell(-1)", x.untell(-1), false);
        due("untell(0)", x.untell(0), true);
        due("untell(0) again", x.untell(0), false);
        due("about(8)", x.about(8), 1);
        promise = 42;
        due("later(0)", x.later(0), 0);
        due("later(5)", x.later(5), 5);
        due("later(1001)", x.later(1001), -1);
        due("later(-1)", x.later(-1), -1);
        due("later(MIN)", x.later(Integer.MIN_VALUE), -1);
        due("about(9)", x.about(9), 5);
        for (int i = 1; i <= 99; i++) {
            due("later(1000)", x.later(1000), 5 + 1000 * i);
        }
        due("later(996)", x.later(996), -1);
        due("later(995)", x.later(995), 100000);
        due("later(1)", x.later(1), -1);
        due("later(0)", x.later(0), 100000);
    }

    private static void promise43() {
        promise = 43;
        due("fits(0) without", new TrunkLitters().fits(0), 0);
        due("fits(0) of one", told("room r holds 9;trunk a bulk 1 at r marks 1;").fits(0), 64);
        TrunkLitters x = told(HOUSE);
        due("fits(0)", x.fits(0), 64);
        x.later(10);
        x.held(0, 5, true);
        due("fits(10): 1 + 6", x.fits(10), 7);
        due("fits(9)", x.fits(9), 64);
        due("fits(MAX)", x.fits(Integer.MAX_VALUE), 7);
        due("fits(MIN)", x.fits(Integer.MIN_VALUE), 64);
        x.later(5);
        x.held(0, 6, false);
        due("fits(15)", x.fits(15), 6);
        due("fits(14)", x.fits(14), 7);
        x.later(5);
        x.untell(0);
        due("fits(19)", x.fits(19), 6);
        due("fits(20): 64 without one", x.fits(20), 63);
        x.held(1, 0, false);
        due("fits(20): none shares below 0", x.fits(20), 0);
        x.untell(2);
        due("fits(20): told and untold at once", x.fits(20), 63);
        x.lose(0);
        x.lose(3);
        due("fits(19): as told", x.fits(19), 6);
    }

    private static void promise44() {
        promise = 44;
        TrunkLitters x = told(HOUSE);
        due("sure(0, 0)", x.sure(0, 0), -2);
        x.held(0, 6, true);
        int[] five = {1, 0, 1, 0, 0, 0};
        for (int k = 0; k < 6; k++) {
            due("sure(" + k + ", 0)", x.sure(k, 0), five[k]);
        }
        due("sure(6, 0)", x.sure(6, 0), -1);
        due("sure(-1, 0)", x.sure(-1, 0), -1);
        due("sure(0, -1)", x.sure(0, -1), -2);
        x.held(1, 6, true);
        due("sure(0, 0): none fits", x.sure(0, 0), -1);
        due("sure without", new TrunkLitters().sure(0, 0), -1);
        // not one shared with 5 is 58
        x = told(HOUSE);
        x.held(0, 1, false);
        due("sure(0, 0)", x.sure(0, 0), 0);
        due("sure(1, 0)", x.sure(1, 0), 1);
        x = told(HOUSE);
        x.held(0, 5, true);
        due("sure(1, 0): 7 alone has it", x.sure(1, 0), -2);
        due("sure(0, 0): 4 alone has it not", x.sure(0, 0), -2);
        x = told(HOUSE);
        x.held(2, 6, true);
        due("sure(5, 0) of 0", x.sure(5, 0), 0);
        x = told(PAIR);
        x.held(0, 0, true);
        due("sure(3, 0): all fit", x.sure(3, 0), -2);
    }

    private static void promise45() {
        promise = 45;
        TrunkLitters x = told(HOUSE);
        due("ask(0, 0): 20 share 3 with each", x.ask(0, 0), 0);
        due("ask(1, 0)", x.ask(1, 0), 20);
        due("ask(2, 0)", x.ask(2, 0), -1);
        due("ask(-1, 0)", x.ask(-1, 0), -1);
        x.held(0, 5, true);
        // 5 itself, 4, 7, 1, 13, 21, 37: of 5 six are left, of 7 the six share 6, 4, 4, 4, 4, 4 and 5 shares 5;
        // of 0 (4, 1 share 5; 5 shares 4; 7, 13, 21, 37 share 3) four are left
        due("ask(0, 0)", x.ask(0, 0), 2);
        due("ask(1, 0)", x.ask(1, 0), 4);
        due("ask(0, -1)", x.ask(0, -1), 0);
        x.held(0, 6, true);
        due("ask(1, 0) of one left", x.ask(1, 0), 1);
        due("ask(0, 0) of one left", x.ask(0, 0), 0);
        x.held(0, 6, false);
        due("ask(0, 0): none fits", x.ask(0, 0), -1);
        due("ask(1, 0): none fits", x.ask(1, 0), -1);
        x = told(HOUSE);
        x.held(0, 1, false);
        for (int i = 0; i < 3; i++) {
            due("ask(0, 0) of 58 alone, which shares none", x.ask(0, 0), 0);
            due("ask(1, 0) of 58 alone, which shares none", x.ask(1, 0), 1);
        }
        x = told("room r holds 9;trunk a bulk 1 at r marks 1;");
        due("ask(0, 0): no other one", x.ask(0, 0), -1);
        due("ask(1, 0): no other one", x.ask(1, 0), -1);
        due("ask without", new TrunkLitters().ask(0, 0), -1);
    }

    private static void promises46And47() {
        promise = 46;
        TrunkLitters x = told(PAIR + "draw 7;brood bulk;");
        due("image(3)", x.image(3), -1);
        due("image(-1)", x.image(-1), -1);
        due("image(2)", x.image(2), 0);
        x.year();
        x.tell(0);
        due("image(0)", x.image(0), 1);
        x.lose(0);
        x.pack();
        promise = 47;
        due("back(1)", x.back(1), -1);
        due("back(3)", x.back(3), -1);
        due("back(-1)", x.back(-1), -1);
        due("about(6)", x.about(6), 3);
        x.undo();
        x.held(0, 1, true);
        due("back(2)", x.back(2), 0);
        due("about(2)", x.about(2), 3);
        due("about(3)", x.about(3), 9);
        due("about(4)", x.about(4), 0);
        due("about(5)", x.about(5), 7);
        due("about(6)", x.about(6), 0);
        due("about(7)", x.about(7), 0);
        due("about(8): it stays", x.about(8), 1);
        due("about(12): it stays", x.about(12), 8);
        due("undo()", x.undo(), false);
        due("back(0)", x.back(0), 1);
        due("about(2)", x.about(2), 7);
        due("about(3)", x.about(3), 8);
        due("about(5)", x.about(5), 30);
        due("trunk(2, 5)", x.trunk(2, 5), 1);
        due("trunk(0, 3)", x.trunk(0, 3), 9);
        x.lose(1);
        due("back(0): from then on it is kept", x.back(0), 1);
        due("trunk(2, 5)", x.trunk(2, 5), 1);
        due("image(2) anew", x.image(2), 1);
        x.year();
        due("back(2)", x.back(2), 1);
    }

    private static void promise48() {
        promise = 48;
        TrunkLitters x = told(HOUSE + "brood alike * (bulk - 2) > 4 and left;");
        x.feed(0, 0, 0, 0, 0);
        x.end(11);
        x.year();
        x.tell(0);
        x.lose(2);
        x.undo();
        x.undo();
        x.year();
        x.tell(0);
        x.undo();
        x.later(12);
        x.held(0, 1, true);
        x.held(1, 1, true);
        x.rivals(0, 3);
        int[] about = {3, 2, 21, 3, 2, 30, 2, 1, 2, 12, 11, 6, 0, 2, 4};
        for (int i = 0; i < about.length; i++) {
            due("about(" + i + ")", x.about(i), about[i]);
        }
        due("about(15)", x.about(15), -1);
        due("about(-1)", x.about(-1), -1);
    }
}
