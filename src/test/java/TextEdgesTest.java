import java.util.Arrays;
import java.util.List;

/** The boundary cases of "Terms" 1 and of promises 1 to 5: what a text may be, and which FAULT it has where. */
public final class TextEdgesTest {
    private static final String OWN_WORDS = "room holds trunk bulk at marks told brood pines tales draw or and not alike "
        + "left many year";
    private static final String SIGNS = "; ( ) < > = + - * / %";
    private static final String ROOM = "room r holds 99;";
    private static final String NEW_NAME = "zz";
    private static final String UNITS = "1 bulk alike left many year (";
    private static final String RELATIONS = "< > =";
    private static final String JOINTS = "+ - * / % and or";

    public static void main(String[] args) {
        textLength();
        wordLength();
        numberLength();
        everyByteAtFirst();
        everyByteBehindANumber();
        everyByteBehindAWord();
        blanks();
        eachAsLongAsCanBe();
        lettersBehindNumbers();
        whatCanStand();
        ownWords();
        mostRooms();
        mostTrunks();
        numbersThatCanBe();
        roomsToldAhead();
        soMuchLeft();
        namesToldAlready();
        untold();
        numbering();
        onceEach();
        units();
        within();
        firstByPlace();
        leastAtOnePlace();
        theEnd();
        newObject();
        feed();
        end();
        house();
        houseStays();
        houseForgets();
        faultOfTheLatest();
        Edges.close();
    }

    /** A text of so many bytes, with blanks between its head and its tail. */
    private static String spread(String head, int length, String tail) {
        return head + " ".repeat(length - head.length() - tail.length()) + tail;
    }

    private static void textLength() {
        Edges.sentence("A HOUSE is a text of at most 1,600 bytes (empty at first)");
        TrunkLitters x = Edges.told(spread("pines 4", 1600, ";"));
        Edges.due("about(13) of 1,600 bytes", x.about(13), 4);
        Edges.right(spread("pines 4", 1599, ";"));
        Edges.fault(spread("pines 4", 1600, ""), 2, 1600);
        Edges.fault(spread("pines 4", 1599, ""), 2, 1599);
        Edges.fault(spread("pines 4;", 1600, "?"), 1, 1599);
        Edges.fault(spread("", 1600, "?"), 1, 1599);
        Edges.right(spread("", 1600, ""));
        Edges.fault("a".repeat(1600), 1, 0);
        Edges.fault(" " + "a".repeat(1599), 1, 1);
        Edges.fault("draw " + "0".repeat(1595), 1, 5);
        Edges.fault("brood " + "(".repeat(1594), 2, 13);
        Edges.fault("brood " + "not ".repeat(398), 2, 6 + 7 * 4);
        Edges.fault(";".repeat(1600), 2, 0);
        x = new TrunkLitters();
        Edges.due("house() of nothing", x.house(), 0);
        Edges.due("fault(0) of nothing", x.fault(0), 0);
        Edges.due("fault(1) of nothing", x.fault(1), -1);
        Edges.right(" ");
        Edges.right("\n");
    }

    private static void wordLength() {
        Edges.sentence("words (a .. z, 8 at most)");
        Edges.sentence("what is none of these, a longer word, .. : 1 at its first byte");
        Edges.right("room abcdefgh holds 9;trunk zyxwvuts bulk 1 at abcdefgh marks 1;");
        Edges.fault("room abcdefghi holds 9;", 1, 5);
        Edges.fault("room r holds 9;trunk zyxwvutsr bulk 1 at r marks 1;", 1, 21);
        Edges.fault("room r holds 9;trunk t bulk 1 at abcdefghi marks 1;", 1, 33);
        Edges.fault("room abcdefgh holds 9;trunk t bulk 1 at abcdefghi marks 1;", 1, 40);
        Edges.fault("room abcdefgh holds 9;trunk t bulk 1 at abcdefg marks 1;", 5, 40);
        Edges.fault("abcdefgh", 2, 0);
        Edges.fault("abcdefghi", 1, 0);
        Edges.fault("roomroom r", 2, 0);
        Edges.fault("roomrooms r", 1, 0);
        Edges.fault("brood abcdefgh;", 2, 6);
        Edges.fault("brood abcdefghi;", 1, 6);
        Edges.fault("brood 1 abcdefgh;", 2, 8);
        Edges.fault("brood 1 abcdefghi;", 1, 8);
        Edges.fault("pines abcdefghi;", 1, 6);
        // eight letters all count, the first and the last one too
        Edges.right("room aaaaaaaa holds 1;room aaaaaaab holds 1;room baaaaaaa holds 1;room aaaaaaa holds 1;");
        Edges.fault("room zzzzzzzz holds 1;room zzzzzzzz holds 1;", 3, 27);
        // words of which the first letters, or the last ones, are a word that stands for itself
        for (int letters = 9; letters <= 40; letters++) {
            Edges.fault("a".repeat(letters - 4) + "room r holds 1;", 1, 0);
            Edges.fault("room" + "a".repeat(letters - 4) + " r holds 1;", 1, 0);
        }
    }

    private static void numberLength() {
        Edges.sentence("N (1 to 4 digits)");
        Edges.sentence("more digits, .. : 1 at its first byte");
        Edges.right("brood 9999;");
        Edges.right("brood 0000;");
        Edges.right("brood 1;");
        Edges.fault("brood 10000;", 1, 6);
        Edges.fault("brood 00000;", 1, 6);
        Edges.fault("brood 1+00001;", 1, 8);
        Edges.fault("brood 4294967297;", 1, 6);
        Edges.fault("brood 18446744073709551617;", 1, 6);
        Edges.right("room r holds 0099;");
        Edges.fault("room r holds 00099;", 1, 13);
        Edges.right("room r holds 9;trunk t bulk 0009 at r marks 0063 told 0009;");
        Edges.fault("room r holds 9;trunk t bulk 00009 at r marks 1;", 1, 28);
        Edges.fault("room r holds 9;trunk t bulk 9 at r marks 00001;", 1, 41);
        Edges.fault("room r holds 9;trunk t bulk 9 at r marks 1 told 00001;", 1, 48);
        Edges.right("pines 0009;tales 0099;draw 0999;");
        Edges.fault("pines 00009;", 1, 6);
        Edges.fault("tales 00009;", 1, 6);
        Edges.fault("draw 00009;", 1, 5);
        Edges.fault("1000 ", 2, 0);
        Edges.fault("10000 ", 1, 0);
        TrunkLitters x = Edges.told("room r holds 0012;trunk t bulk 0010 at r marks 0010;");
        Edges.due("room(0, 0): tens, not eights", x.room(0, 0), 12);
        Edges.trunk(x, 0, 10, 0, 10);
    }

    private static boolean isLetter(int c) {
        return c >= 'a' && c <= 'z';
    }

    private static boolean isDigit(int c) {
        return c >= '0' && c <= '9';
    }

    private static boolean isBlank(int c) {
        return c == 32 || c == 10;
    }

    private static boolean isSign(int c) {
        return ";()<>=+-*/%".indexOf(c) >= 0;
    }

    private static void everyByteAtFirst() {
        Edges.sentence("words (a .. z, ..), N (..), signs ; ( ) < > = + - * / %; blanks (32, 10): what is none of these: 1");
        for (int c = 0; c < 256; c++) {
            String text = "" + (char) c;
            if (isBlank(c)) {
                Edges.right(text);
                Edges.right(text + "pines 1;" + text);
            } else {
                Edges.fault(text, isLetter(c) || isDigit(c) || isSign(c) ? 2 : 1, 0);
                Edges.fault("pines 1; " + text, isLetter(c) || isDigit(c) || isSign(c) ? 2 : 1, 9);
            }
        }
    }

    private static void everyByteBehindANumber() {
        Edges.sentence("no letter directly behind an N");
        for (int c = 0; c < 256; c++) {
            String text = "brood 1" + (char) c + "1;";
            if (isLetter(c)) {
                Edges.fault(text, 1, 6);
            } else if (isDigit(c) || "<>=+-*/%".indexOf(c) >= 0) {
                Edges.right(text);
            } else if (isBlank(c) || c == ';') {
                Edges.fault(text, 2, 8);
            } else {
                Edges.fault(text, c == '(' || c == ')' ? 2 : 1, 7);
            }
        }
    }

    private static void everyByteBehindAWord() {
        Edges.sentence("each is as long as can be");
        for (int c = 0; c < 256; c++) {
            String text = "brood bulk" + (char) c + ";";
            if (isBlank(c)) {
                Edges.right(text);
            } else if (isLetter(c)) {
                Edges.fault(text, 2, 6);
            } else if (c == ';' || "<>=+-*/%".indexOf(c) >= 0) {
                Edges.fault(text, 2, 11);
            } else {
                Edges.fault(text, isDigit(c) || c == '(' || c == ')' ? 2 : 1, 10);
            }
        }
    }

    private static void blanks() {
        Edges.sentence("blanks (32, 10) part them or not");
        String[] tokens = ("room r holds 20 ; trunk t bulk 3 at r marks 5 told 2 ; brood not ( 1 + bulk ) > 3 or left ; "
            + "pines 4 ; tales 5 ; draw 6 ;").split(" ");
        for (String blank : List.of(" ", "\n", "  ", "\n\n", " \n ")) {
            TrunkLitters x = Edges.told(blank + String.join(blank, tokens) + blank);
            Edges.due("about(11)", x.about(11), 5);
            Edges.due("about(13)", x.about(13), 4);
            Edges.trunk(x, 0, 3, 0, 5, 2);
        }
        TrunkLitters x = Edges.told("room r holds20;trunk t bulk3at r marks5told2;".replace("3at", "3 at")
            .replace("5told", "5 told") + "brood not(1+bulk)>3or left;".replace("3or", "3 or") + "pines4;tales5;draw6;");
        Edges.due("about(11) without blanks", x.about(11), 5);
        Edges.due("about(5) without blanks", x.about(5), 6);
        Edges.fault("ro om r holds 9;", 2, 0);
        Edges.fault("room r holds 9 9;", 2, 15);
        Edges.fault("room r\tholds 9;", 1, 6);
        Edges.fault("room r holds 9;\r\n", 1, 15);
        Edges.fault("room r holds 9;" + (char) 160, 1, 15);
        Edges.fault("room r holds 9;" + (char) 0, 1, 15);
    }

    private static void eachAsLongAsCanBe() {
        Edges.sentence("each is as long as can be");
        Edges.fault("roomr holds 9;", 2, 0);
        Edges.fault("room rholds 9;", 2, 12);
        Edges.fault("brood notbulk;", 2, 6);
        Edges.fault("brood 1 andbulk;", 2, 8);
        Edges.right("brood 1 and bulk;");
        Edges.right("brood not(bulk);");
        Edges.right("pines9;");
        Edges.fault("brood 1 >= 2;", 2, 9);
        TrunkLitters x = Edges.told("room a holds 9;room aa holds 8;trunk t bulk 1 at aa marks 1;");
        Edges.due("trunk(0, 1): at aa", x.trunk(0, 1), 1);
    }

    private static void lettersBehindNumbers() {
        Edges.sentence("no letter directly behind an N (.. an N with a letter behind it: 1 at its first byte)");
        Edges.fault("room r holds 9a;", 1, 13);
        Edges.fault("room r holds 99z;", 1, 13);
        Edges.fault("room r holds 9999a;", 1, 13);
        Edges.fault("room r holds 99999a;", 1, 13);
        Edges.fault("room r holds 9 a;", 2, 15);
        Edges.fault("room r holds 9\na;", 2, 15);
        Edges.fault("room r holds 9A;", 1, 14);
        Edges.fault("room r holds 9;trunk t bulk 9at r marks 1;", 1, 28);
        Edges.right("room r holds 9;trunk t bulk 9 at r marks 1;");
        Edges.fault("room r holds 9;trunk t bulk 9 at r marks 1told 2;", 1, 41);
        Edges.fault("brood 1and 2;", 1, 6);
        Edges.fault("brood 1 and 2or 3;", 1, 12);
        Edges.right("brood (1)and(2);");
        Edges.fault("9a", 1, 0);
        Edges.fault("9;", 2, 0);
        // a letter ahead of one parts them
        Edges.right("room r holds9;trunk t bulk9 at r marks1 told2;");
        Edges.fault("room r9 holds 9;", 2, 6);
        Edges.fault("room r9holds 9;", 1, 6);
    }

    /** Behind a text each TOKEN that there is: the one that can stand leads on, the others are a FAULT there. */
    private static void next(String text, String can) {
        List<String> standing = Arrays.asList(can.split(" "));
        String tokens = OWN_WORDS + " " + SIGNS + " " + NEW_NAME + " r 1";
        for (String token : tokens.split(" ")) {
            String more = text + token;
            if (!standing.contains(token)) {
                Edges.fault(more, 2, text.length());
            } else if (token.equals(";")) {
                Edges.right(more);
            } else {
                Edges.fault(more, 2, more.length());
            }
        }
        Edges.fault(text, 2, text.length());
        Edges.fault(text + "?", 1, text.length());
        Edges.fault(text + "abcdefghi", 1, text.length());
        Edges.fault(text + "12345", 1, text.length());
        Edges.fault(text + "1a", 1, text.length());
    }

    private static void whatCanStand() {
        Edges.sentence("2 one that can't stand there");
        next("room ", NEW_NAME + " r");
        next("room r ", "holds");
        next("room r holds ", "1");
        next("room r holds 1 ", ";");
        next(ROOM + "trunk ", NEW_NAME + " r");
        next(ROOM + "trunk t ", "bulk");
        next(ROOM + "trunk t bulk ", "1");
        next(ROOM + "trunk t bulk 1 ", "at");
        next(ROOM + "trunk t bulk 1 at r ", "marks");
        next(ROOM + "trunk t bulk 1 at r marks ", "1");
        next(ROOM + "trunk t bulk 1 at r marks 1 ", "told ;");
        next(ROOM + "trunk t bulk 1 at r marks 1 told ", "1");
        next(ROOM + "trunk t bulk 1 at r marks 1 told 1 ", ";");
        next("pines ", "1");
        next("pines 1 ", ";");
        next("tales ", "1");
        next("tales 1 ", ";");
        next("draw ", "1");
        next("draw 1 ", ";");
        whatCanStandInBrood();
        // at a line's beginning the end can stand as well
        String lines = "room trunk brood pines tales draw";
        for (String token : (OWN_WORDS + " " + SIGNS + " " + NEW_NAME + " 1").split(" ")) {
            boolean can = Arrays.asList(lines.split(" ")).contains(token);
            Edges.fault(token, 2, can ? token.length() : 0);
            Edges.fault(ROOM + token, 2, ROOM.length() + (can ? token.length() : 0));
        }
        // at the NAME of a ROOM: a NAME that none has is a FAULT of its own
        String at = ROOM + "trunk t bulk 1 at ";
        for (String token : (OWN_WORDS + " " + SIGNS + " 1").split(" ")) {
            Edges.fault(at + token, 2, at.length());
        }
        Edges.fault(at + NEW_NAME, 5, at.length());
        Edges.fault(at + "r", 2, at.length() + 1);
    }

    private static void whatCanStandInBrood() {
        Edges.sentence("e = both {or both}.  both = one {and one}.  one = not one | sum [(< | > | =) sum].");
        String unitOrNot = UNITS + " not";
        next("brood ", unitOrNot);
        next("brood not ", unitOrNot);
        next("brood (", unitOrNot);
        next("brood 1 or ", unitOrNot);
        next("brood 1 and ", unitOrNot);
        for (String relation : RELATIONS.split(" ")) {
            next("brood 1 " + relation + " ", UNITS);
            next("brood 1 " + relation + " 2 ", JOINTS + " ;");
            next("brood (1 " + relation + " 2 ", JOINTS + " )");
            next("brood not 1 " + relation + " 2 ", JOINTS + " ;");
            next("brood 1 " + relation + " 2 and 3 ", JOINTS + " " + RELATIONS + " ;");
            next("brood 1 " + relation + " 2 or 3 ", JOINTS + " " + RELATIONS + " ;");
            next("brood (1 " + relation + " 2) ", JOINTS + " " + RELATIONS + " ;");
        }
        for (String sign : "+ - * / %".split(" ")) {
            next("brood 1 " + sign + " ", UNITS);
            next("brood 1 " + sign + " 2 ", JOINTS + " " + RELATIONS + " ;");
        }
        for (String unit : "1 bulk alike left many year (2)".split(" ")) {
            next("brood " + unit + " ", JOINTS + " " + RELATIONS + " ;");
            next("brood (" + unit + " ", JOINTS + " " + RELATIONS + " )");
            next("brood not " + unit + " ", JOINTS + " " + RELATIONS + " ;");
        }
        Edges.fault("brood 1 + not 2;", 2, 10);
        Edges.fault("brood 1 < not 2;", 2, 10);
        Edges.right("brood 1 + (not 2);");
        Edges.right("brood 1 < 2 and 2 < 3 or not 3 < 4;");
    }

    private static void ownWords() {
        Edges.sentence("Words that stand for themselves here are no NAMES.");
        for (String word : OWN_WORDS.split(" ")) {
            Edges.fault("room " + word + " holds 9;", 2, 5);
            Edges.fault(ROOM + "trunk " + word + " bulk 1 at r marks 1;", 2, ROOM.length() + 6);
            Edges.fault(ROOM + "trunk t bulk 1 at " + word + " marks 1;", 2, ROOM.length() + 18);
            String shorter = word.substring(0, word.length() - 1);
            String behind = word.substring(1);
            for (String name : List.of(word + "s", "x" + word, shorter, behind)) {
                boolean isOwn = name.isEmpty() || Arrays.asList(OWN_WORDS.split(" ")).contains(name);
                if (!isOwn) {
                    Edges.right("room " + name + " holds 9;trunk " + name + " bulk 1 at " + name + " marks 1;");
                }
            }
        }
        for (String word : "house line e both one sum term unit n name none".split(" ")) {
            Edges.right("room " + word + " holds 9;trunk " + word + " bulk 1 at " + word + " marks 1;");
        }
    }

    private static void mostRooms() {
        Edges.sentence("At most 4 ROOMS; FAULTS .. 2 .. one of a sort too many: at the line's first word");
        String four = "room a holds 1;room b holds 1;room c holds 1;room d holds 1;";
        TrunkLitters x = Edges.told(four);
        Edges.due("about(1)", x.about(1), 4);
        Edges.due("room(3, 0)", x.room(3, 0), 1);
        Edges.due("room(4, 0)", x.room(4, 0), -1);
        Edges.fault(four + "room e holds 1;", 2, 60);
        Edges.fault(four + "room", 2, 60);
        Edges.fault(four + "room a holds 100;", 2, 60);
        Edges.fault(four + " room abcdefghi", 2, 61);
        Edges.fault(four + "pines 3;room e holds 1;", 2, 68);
        Edges.fault(four + "rooms", 2, 60);
        Edges.right("room a holds 1;room b holds 1;room c holds 1;pines 3;room d holds 1;tales 1;");
    }

    private static void mostTrunks() {
        Edges.sentence("6 TRUNKS; FAULTS .. 2 .. one of a sort too many: at the line's first word");
        StringBuilder six = new StringBuilder(ROOM);
        for (char c = 'a'; c < 'g'; c++) {
            six.append("trunk ").append(c).append(" bulk 1 at r marks 1;");
        }
        TrunkLitters x = Edges.told(six.toString());
        Edges.due("about(0)", x.about(0), 6);
        Edges.due("about(14)", x.about(14), 6);
        Edges.due("trunk(5, 0)", x.trunk(5, 0), 1);
        Edges.due("trunk(6, 0)", x.trunk(6, 0), -2);
        Edges.fault(six + "trunk g bulk 1 at r marks 1;", 2, six.length());
        Edges.fault(six + "trunk", 2, six.length());
        Edges.fault(six + "trunk ?", 2, six.length());
        Edges.fault(six + "trunk a bulk 99 at z", 2, six.length());
        Edges.fault(six + "room s holds 1;trunk g bulk 1 at s marks 1;", 2, six.length() + 15);
        Edges.right(six + "room s holds 1;");
        Edges.right("room q holds 1;room s holds 1;room t holds 1;" + six);
    }

    /** A number told behind head, from least to most. */
    private static void number(String head, String tail, int least, int most) {
        for (int n : new int[] {least, least + 1, most - 1, most}) {
            Edges.right(head + n + tail);
            Edges.right(head + "0" + n + tail);
        }
        for (int n : new int[] {least - 1, most + 1, most + 2, 2 * most + 2, 9999}) {
            if (n >= 0) {
                Edges.fault(head + n + tail, 4, head.length());
                Edges.fault(head + " " + (n < 1000 ? "0" : "") + n + tail, 4, head.length() + 1);
                Edges.fault(head + n, 4, head.length());
                Edges.fault(head + n + "?", 4, head.length());
            }
        }
        Edges.fault(head + "-1" + tail, 2, head.length());
        Edges.fault(head + "10000" + tail, 1, head.length());
    }

    private static void numbersThatCanBe() {
        Edges.sentence("holds 0 .. 99; bulk 1 .. 20; marks 0 .. 63; told 0 .. 9; pines 1 .. 9; tales 0 .. 99; draw 0 .. 999;"
            + " 4 a number that can't be");
        number("room q holds ", ";", 0, 99);
        number(ROOM + "trunk t bulk ", " at r marks 1;", 1, 20);
        number(ROOM + "trunk t bulk 1 at r marks ", ";", 0, 63);
        number(ROOM + "trunk t bulk 1 at r marks ", " told 1;", 0, 63);
        number(ROOM + "trunk t bulk 1 at r marks 1 told ", ";", 0, 9);
        number("pines ", ";", 1, 9);
        number("tales ", ";", 0, 99);
        number("draw ", ";", 0, 999);
        Edges.sentence("N in brood: any");
        for (int n : new int[] {0, 1, 99, 100, 999, 1000, 9999}) {
            Edges.right("brood " + n + ";");
        }
        TrunkLitters x = Edges.told("room q holds 99;room s holds 0;trunk a bulk 20 at q marks 63 told 9;"
            + "trunk b bulk 1 at q marks 0 told 0;pines 9;tales 99;draw 999;");
        Edges.due("room(0, 0)", x.room(0, 0), 99);
        Edges.due("room(1, 0)", x.room(1, 0), 0);
        Edges.trunk(x, 0, 20, 0, 63, 9);
        Edges.trunk(x, 1, 1, 0, 0, 0);
        Edges.due("about(13)", x.about(13), 9);
        Edges.due("about(3)", x.about(3), 99);
        Edges.due("about(5)", x.about(5), 999);
        Edges.due("about(13)", Edges.told("pines 1;").about(13), 1);
    }

    private static void roomsToldAhead() {
        Edges.sentence("at a ROOM told ahead; 5 a NAME that no ROOM has");
        Edges.fault("trunk t bulk 1 at r marks 1;" + ROOM, 5, 18);
        Edges.right(ROOM + "trunk t bulk 1 at r marks 1;");
        Edges.fault(ROOM + "trunk t bulk 1 at s marks 1;room s holds 9;", 5, 34);
        Edges.fault(ROOM + "trunk t bulk 1 at t marks 1;", 5, 34);
        Edges.fault(ROOM + "trunk t bulk 1 at rr marks 1;", 5, 34);
        Edges.fault(ROOM + "trunk t bulk 1 at s", 5, 34);
        String four = "room a holds 9;room b holds 9;room c holds 9;room d holds 9;";
        for (char c = 'a'; c <= 'd'; c++) {
            TrunkLitters x = Edges.told(four + "trunk t bulk 1 at " + c + " marks 1;");
            Edges.due("trunk(0, 1) at " + c, x.trunk(0, 1), c - 'a');
        }
        Edges.fault(four + "trunk t bulk 1 at e marks 1;", 5, 78);
        // a ROOM of the HOUSE ahead is none of this one
        TrunkLitters x = Edges.told(ROOM);
        Edges.due("house()", Texts.house(x, "trunk t bulk 1 at r marks 1;"), -1);
        Edges.due("fault(0)", x.fault(0), 5);
        Edges.due("fault(1)", x.fault(1), 18);
        Edges.due("house() with one ROOM less", Texts.house(x, "room s holds 9;trunk t bulk 1 at r marks 1;"), -1);
        Edges.due("fault(0)", x.fault(0), 5);
    }

    private static void soMuchLeft() {
        Edges.sentence("in which there is so much left by those told so far; 3 .. a ROOM in which there is not so much left "
            + "(at its NAME)");
        Edges.right("room r holds 9;trunk t bulk 9 at r marks 1;");
        Edges.fault("room r holds 8;trunk t bulk 9 at r marks 1;", 3, 33);
        Edges.fault("room r holds 0;trunk t bulk 1 at r marks 1;", 3, 33);
        Edges.right("room r holds 1;trunk t bulk 1 at r marks 1;");
        Edges.right("room r holds 12;trunk t bulk 9 at r marks 1;trunk u bulk 3 at r marks 1;");
        Edges.fault("room r holds 11;trunk t bulk 9 at r marks 1;trunk u bulk 3 at r marks 1;", 3, 62);
        Edges.fault("room r holds 11;trunk t bulk 9 at r marks 1;trunk u bulk 3 at r", 3, 62);
        Edges.fault("room r holds 11;trunk t bulk 9 at r marks 1;trunk u bulk 3 at r ?", 3, 62);
        // of that ROOM alone
        Edges.right("room r holds 9;room s holds 3;trunk t bulk 9 at r marks 1;trunk u bulk 3 at s marks 1;");
        Edges.fault("room r holds 9;room s holds 3;trunk t bulk 3 at s marks 1;trunk u bulk 1 at s marks 1;", 3, 76);
        Edges.right("room r holds 9;room s holds 3;trunk t bulk 3 at s marks 1;trunk u bulk 9 at r marks 1;");
        Edges.right("room r holds 99;trunk a bulk 20 at r marks 1;trunk b bulk 20 at r marks 1;trunk c bulk 20 at r marks 1;"
            + "trunk d bulk 20 at r marks 1;trunk e bulk 19 at r marks 1;");
        Edges.fault("room r holds 99;trunk a bulk 20 at r marks 1;trunk b bulk 20 at r marks 1;trunk c bulk 20 at r "
            + "marks 1;trunk d bulk 20 at r marks 1;trunk e bulk 20 at r marks 1;", 3, 151);
        // those of the HOUSE ahead take nothing
        TrunkLitters x = Edges.told("room r holds 9;trunk t bulk 9 at r marks 1;");
        Edges.due("house() once more", Texts.house(x, "room r holds 9;trunk t bulk 9 at r marks 1;"), 1);
    }

    private static void namesToldAlready() {
        Edges.sentence("3 a NAME told already (of its sort) .. (at its NAME)");
        Edges.fault("room r holds 9;room r holds 9;", 3, 20);
        Edges.fault("room r holds 9;room r", 3, 20);
        Edges.fault("room r holds 9;room r ?", 3, 20);
        Edges.right("room r holds 9;room s holds 9;");
        Edges.fault("room a holds 1;room b holds 1;room c holds 1;room a holds 1;", 3, 50);
        Edges.fault("room a holds 1;room b holds 1;room c holds 1;room b holds 1;", 3, 50);
        Edges.fault("room a holds 1;room b holds 1;room c holds 1;room c holds 1;", 3, 50);
        StringBuilder five = new StringBuilder(ROOM);
        for (char c = 'a'; c < 'f'; c++) {
            five.append("trunk ").append(c).append(" bulk 1 at r marks 1;");
        }
        for (char c = 'a'; c < 'f'; c++) {
            Edges.fault(five + "trunk " + c + " bulk 1 at r marks 1;", 3, five.length() + 6);
        }
        Edges.right(five + "trunk f bulk 1 at r marks 1;");
        // each sort by itself, either way round
        Edges.right("room r holds 9;trunk r bulk 1 at r marks 1;");
        Edges.right("room r holds 9;trunk s bulk 1 at r marks 1;room s holds 9;");
        // those of the HOUSE ahead, and of one with a FAULT, are told anew
        TrunkLitters x = Edges.told(five.toString());
        Edges.due("house()", Texts.house(x, five.toString()), 5);
        Edges.due("house()", Texts.house(x, five + "?"), -1);
        Edges.due("house()", Texts.house(x, five.toString()), 5);
    }

    private static void untold() {
        Edges.sentence("told 0 .. 9, 0 if not told; pines 3; tales 0; draw 0 (not told)");
        TrunkLitters x = Edges.told(ROOM + "trunk a bulk 1 at r marks 1 told 5;trunk b bulk 1 at r marks 1;");
        Edges.due("trunk(0, 3)", x.trunk(0, 3), 5);
        Edges.due("trunk(1, 3)", x.trunk(1, 3), 0);
        Edges.due("about(13)", x.about(13), 3);
        Edges.due("about(3)", x.about(3), 0);
        Edges.due("about(5)", x.about(5), 0);
        Edges.due("about(11)", x.about(11), 0);
        Edges.tell(x, "pines 8;tales 7;draw 6;brood 1+1;" + ROOM + "trunk a bulk 1 at r marks 1 told 5;"
            + "trunk b bulk 1 at r marks 1 told 4;");
        Edges.tell(x, ROOM + "trunk a bulk 1 at r marks 1;trunk b bulk 1 at r marks 1 told 0;");
        Edges.due("trunk(0, 3): not that of the HOUSE ahead", x.trunk(0, 3), 0);
        Edges.due("trunk(1, 3)", x.trunk(1, 3), 0);
        Edges.due("about(13)", x.about(13), 3);
        Edges.due("about(3)", x.about(3), 0);
        Edges.due("about(5)", x.about(5), 0);
        Edges.due("about(11)", x.about(11), 0);
        Edges.due("brood(0, 1): alike - many", x.brood(0, 1), 6 - 2);
    }

    private static void numbering() {
        Edges.sentence("numbered as told, each sort by itself");
        TrunkLitters x = Edges.told("room z holds 30;trunk y bulk 3 at z marks 1;room b holds 20;trunk x bulk 4 at b marks 2;"
            + "trunk a bulk 5 at z marks 3;room a holds 10;trunk m bulk 6 at a marks 4;");
        int[][] rooms = {{30, 22, 5}, {20, 16, 2}, {10, 4, 8}};
        for (int r = 0; r < 3; r++) {
            for (int what = 0; what < 3; what++) {
                Edges.due("room(" + r + ", " + what + ")", x.room(r, what), rooms[r][what]);
            }
        }
        Edges.trunk(x, 0, 3, 0, 1);
        Edges.trunk(x, 1, 4, 1, 2);
        Edges.trunk(x, 2, 5, 0, 3);
        Edges.trunk(x, 3, 6, 2, 4);
    }

    private static void onceEach() {
        Edges.sentence("brood, pines, tales, draw once each; 2 .. one .. a second time: at the line's first word");
        String[] lines = {"brood 1;", "pines 3;", "tales 0;", "draw 0;"};
        String all = String.join("", lines);
        Edges.right(all);
        for (String line : lines) {
            Edges.right(line);
            Edges.fault(line + line, 2, line.length());
            Edges.fault(line + " " + line, 2, line.length() + 1);
            Edges.fault(all + line, 2, all.length());
            Edges.fault(all + ROOM + line, 2, all.length() + ROOM.length());
            Edges.fault(all + line.substring(0, 5).trim(), 2, all.length());
            Edges.fault(all + line.substring(0, line.indexOf(' ')) + " ?", 2, all.length());
        }
        TrunkLitters x = new TrunkLitters();
        for (int i = 0; i < 3; i++) {
            Edges.due("house() told again", Texts.house(x, all), 0);
            Edges.due("house() with a FAULT", Texts.house(x, all + "?"), -1);
            Edges.due("fault(0)", x.fault(0), 1);
        }
    }

    private static void units() {
        Edges.sentence("60 units in all, 30 in one e; 2 .. a unit too many .. : at its first TOKEN");
        String thirty = "1" + "+1".repeat(29);
        TrunkLitters x = Edges.told("brood " + thirty + ";");
        Edges.due("about(11)", x.about(11), 30);
        Edges.fault("brood " + thirty + "+1;", 2, 6 + 60);
        Edges.fault("brood " + thirty + "+", 2, 6 + 60);
        Edges.fault("brood " + thirty + "+ left", 2, 6 + 61);
        Edges.fault("brood " + thirty + "+(1);", 2, 6 + 60);
        Edges.fault("brood " + thirty + "+?", 1, 6 + 60);
        Edges.fault("brood " + thirty + " or not 1;", 2, 6 + 59 + 8);
        for (String joint : "+ - * / % < > = and or".split(" ")) {
            String head = "brood " + "1+".repeat(28) + "1 " + joint + " ";
            Edges.right(head + "1;");
            Edges.fault(head + "1+1;", 2, head.length() + 2);
            Edges.fault(head + "(1);", 2, head.length() + 1);
        }
        for (String unit : "7 bulk alike left many year".split(" ")) {
            String head = "brood " + (unit + "*").repeat(29) + unit;
            Edges.due("about(11) of " + unit, Edges.told(head + ";").about(11), 30);
            Edges.fault(head + "*" + unit + ";", 2, head.length() + 1);
        }
        Edges.sentence("unit = N | bulk | alike | left | many | year | ( e )");
        Edges.due("about(11)", Edges.told("brood (1);").about(11), 2);
        Edges.due("about(11)", Edges.told("brood ((1));").about(11), 3);
        Edges.due("about(11)", Edges.told("brood not not 1;").about(11), 1);
        Edges.due("about(11)", Edges.told("brood (1 or 2) and (3 = 4);").about(11), 6);
        Edges.right("brood (1" + "+1".repeat(28) + ");");
        Edges.fault("brood (1" + "+1".repeat(29) + ");", 2, 7 + 58);
        Edges.due("about(11) of none", Edges.told("pines 3;").about(11), 0);
        x = new TrunkLitters();
        for (int i = 0; i < 3; i++) {
            Edges.due("house(): units are counted anew", Texts.house(x, "brood " + thirty + ";"), 0);
            Edges.due("house(): one too many", Texts.house(x, "brood " + thirty + "+1;"), -1);
            Edges.due("about(11)", x.about(11), 30);
        }
    }

    private static void within() {
        Edges.sentence("a unit ( e ), or a one behind not, within 6 others at most; 2 .. what is within 7 others: at its first "
            + "TOKEN, or the not");
        for (int bits = 0; bits < 128; bits++) {
            StringBuilder head = new StringBuilder("brood ");
            StringBuilder tail = new StringBuilder();
            for (int i = 0; i < 7; i++) {
                boolean isNot = (bits >> i & 1) != 0;
                head.append(isNot ? "not " : "(");
                tail.append(isNot ? "" : ")");
            }
            Edges.right(head + "1" + tail + ";");
            Edges.fault(head + "(1)" + tail + ";", 2, head.length());
            Edges.fault(head + "not 1" + tail + ";", 2, head.length());
            // a not ends ahead of an and, a bracket does not
            if (head.charAt(head.length() - 1) == '(') {
                Edges.fault(head + "1 + 2 and (1)" + tail + ";", 2, head.length() + 10);
            } else {
                Edges.right(head + "1 + 2 and (1)" + tail + ";");
            }
            Edges.fault(head + "?", 1, head.length());
        }
        // the first one that is within too many, though others follow
        Edges.fault("brood " + "(".repeat(9) + "1" + ")".repeat(9) + ";", 2, 13);
        Edges.fault("brood " + "not ".repeat(9) + "1;", 2, 6 + 28);
        Edges.fault("brood " + "(".repeat(8), 2, 13);
        Edges.fault("brood " + "(".repeat(7), 2, 13);
        // beside each other they are not within each other
        String deep = "(((((((1)))))))";
        Edges.right("brood " + deep + "+" + deep + "*" + deep + ";");
        Edges.right("brood (1)+(1)+(1)+(1)+(1)+(1)+(1)+(1)+(1);");
        Edges.right("brood " + deep + " and not not not not not not not 1 or " + deep + ";");
        Edges.right("brood not 1 and not 1 and not 1 and not 1 and not 1 and not 1 and not 1 and not 1 and not 1;");
        Edges.right("brood ((((((not 1 and not 1 and (1))))))) or not ((((((1))))));");
        Edges.fault("brood ((((((not 1 and not 1 and not (1)))))));", 2, 36);
    }

    private static void firstByPlace() {
        Edges.sentence("FAULTS, the first by its place");
        Edges.fault("room r holds 100;room r holds 100;?", 4, 13);
        Edges.fault("room r holds 9;room r holds 100;?", 3, 20);
        Edges.fault("room r holds 9;trunk t bulk 21 at z marks 64;", 4, 28);
        Edges.fault("room r holds 9;trunk t bulk 20 at z marks 64;", 5, 34);
        Edges.fault("room r holds 9;trunk t bulk 20 at r marks 64;", 3, 34);
        Edges.fault("room r holds 20;trunk t bulk 20 at r marks 64 told 10;", 4, 43);
        Edges.fault("room r holds 20;trunk t bulk 20 at r marks 63 told 10 ?", 4, 51);
        Edges.fault("room r holds 20;trunk t bulk 20 at r marks 63 told 9 ?", 1, 53);
        Edges.fault("; ?", 2, 0);
        Edges.fault("? ;", 1, 0);
        Edges.fault("pines 3 pines 0;", 2, 8);
        Edges.fault("pines 3;pines 0;", 2, 8);
        Edges.fault("brood 1 1a", 1, 8);
        Edges.fault("brood 1a 1", 1, 6);
        Edges.fault("room abcdefghi holds 100;", 1, 5);
    }

    private static void leastAtOnePlace() {
        Edges.sentence("at one place the least (1 no TOKEN; 2 one that can't stand there ..)");
        Edges.fault("?", 1, 0);
        Edges.fault("12345", 1, 0);
        Edges.fault("1a", 1, 0);
        Edges.fault("room 1a holds 9;", 1, 5);
        Edges.fault("room r holds abcdefghi;", 1, 13);
        Edges.fault("room r holds 10000;", 1, 13);
        Edges.fault("room r holds 9;room rrrrrrrrr holds 9;", 1, 20);
        Edges.fault("room r holds 9;trunk t bulk 1 at rrrrrrrrr marks 1;", 1, 33);
        Edges.fault("brood " + "1+".repeat(30) + "1a;", 1, 66);
        Edges.fault("brood " + "(".repeat(7) + "abcdefghi", 1, 13);
        String four = "room a holds 1;room b holds 1;room c holds 1;room d holds 1;";
        Edges.fault(four + "roomroomr", 1, 60);
        Edges.fault(four + "room", 2, 60);
    }

    private static void theEnd() {
        Edges.sentence("the end: the text's length");
        String[] tokens = ("room r holds 20 ; trunk t bulk 3 at r marks 5 told 2 ; brood not ( 1 + bulk ) > 3 or left ; "
            + "pines 4 ; tales 5 ; draw 6 ;").split(" ");
        StringBuilder text = new StringBuilder();
        for (int i = 0; i < tokens.length; i++) {
            text.append(i == 0 ? "" : " ").append(tokens[i]);
            for (String blanks : List.of("", " ", "\n", "   \n \n")) {
                String cut = text + blanks;
                if (tokens[i].equals(";")) {
                    Edges.right(cut);
                } else {
                    Edges.fault(cut, 2, cut.length());
                }
            }
        }
        Edges.fault(spread("room", 1600, ""), 2, 1600);
        // behind a TAPE that was longer there is nothing of it
        TrunkLitters x = new TrunkLitters();
        Texts.feed(x, "pines 4;");
        x.end(7);
        Edges.due("house() of pines 4", x.house(), -1);
        Edges.due("fault(1)", x.fault(1), 7);
    }

    private static void newObject() {
        Edges.sentence("TrunkLitters(): An empty HOUSE.");
        TrunkLitters x = new TrunkLitters();
        Edges.about(x, 0, 0, 0, 0, 0, 0, 0, 0, 0, 0, 0, 0, 0, 3, 0);
        for (int i = -1; i <= 8; i++) {
            Edges.due("trunk(" + i + ", 0)", x.trunk(i, 0), -2);
            Edges.due("room(" + i + ", 0)", x.room(i, 0), -1);
            Edges.due("lies(" + i + ")", x.lies(i), -2);
            Edges.due("back(" + i + ")", x.back(i), -1);
        }
        Edges.due("undo()", x.undo(), false);
        Edges.due("redo()", x.redo(), false);
        Edges.due("untell(0)", x.untell(0), false);
        Edges.due("two objects are two", new TrunkLitters().year() + x.about(4), 0);
    }

    private static void feed() {
        Edges.sentence("Twenty bytes come behind those on the TAPE, of each number the highest first: how many there are");
        TrunkLitters x = new TrunkLitters();
        Edges.due("feed", x.feed(0x70696e65, 0x73203420, 0x20202020, 0x20202020, 0x20202020), 20);
        Edges.due("feed behind it", x.feed(0x3b747261, 0x77203132, 0x333b6472, 0x61772035, 0x363b2020), 40);
        Edges.due("house()", x.house(), -1);
        Edges.due("fault(1): trawl", x.fault(1), 21);
        x.feed(0x70696e65, 0x73203420, 0x3b746c65, 0x73203132, 0x3b647261);
        x.end(9);
        Edges.due("feed behind nine", x.feed(0x64726177, 0x20313233, 0x3b74616c, 0x65732034, 0x353b2020), 29);
        Edges.due("house()", x.house(), 0);
        Edges.due("about(13)", x.about(13), 4);
        Edges.due("about(5)", x.about(5), 123);
        Edges.due("about(3)", x.about(3), 45);
        // the highest bit of a number is of its first byte alone
        for (int i = 0; i < 4; i++) {
            x = new TrunkLitters();
            x.feed(0x20202020 | 0x80 << 8 * i, 0x20202020, 0x20202020, 0x20202020, 0x20202020);
            x.house();
            Edges.due("fault(0) of byte 160", x.fault(0), 1);
            Edges.due("fault(1) of byte 160", x.fault(1), 3 - i);
            x.feed(0x20202020, 0x20202020, 0x20202020, 0x20202020, 0x20202020 ^ 0x1f << 8 * i);
            x.house();
            Edges.due("fault(0) of byte 63", x.fault(0), 1);
            Edges.due("fault(1) of byte 63", x.fault(1), 19 - i);
        }
        Edges.sentence("NONE, and nothing comes, if there would be more than 1,600");
        x = new TrunkLitters();
        for (int i = 1; i <= 80; i++) {
            Edges.due("feed " + i, x.feed(0x20202020, 0x20202020, 0x20202020, 0x20202020, 0x2020203b), 20 * i);
        }
        Edges.due("feed 81", x.feed(0, 0, 0, 0, 0), -1);
        Edges.due("end(1581)", x.end(1581), 1581);
        Edges.due("feed at 1581", x.feed(0, 0, 0, 0, 0), -1);
        Edges.due("about(10)", x.about(10), 1581);
        Edges.due("end(1580)", x.end(1580), 1580);
        Edges.due("feed at 1580", x.feed(0x20202020, 0x20202020, 0x20202020, 0x20202020, 0x20202020), 1600);
        Edges.due("about(10)", x.about(10), 1600);
        Edges.nothing("feed at 1,600", o -> {
            for (int i = 0; i < 80; i++) {
                o.feed(0x20202020, 0x20202020, 0x20202020, 0x20202020, 0x20202020);
            }
        }, o -> o.feed(-1, -1, -1, -1, -1), -1);
        Edges.nothing("feed at 1,595", o -> {
            for (int i = 0; i < 80; i++) {
                o.feed(0x20202020, 0x20202020, 0x20202020, 0x20202020, 0x20202020);
            }
            o.end(1595);
        }, o -> o.feed(-1, -1, -1, -1, -1), -1);
    }

    private static void end() {
        Edges.sentence("The TAPE has its first n bytes: n");
        TrunkLitters x = new TrunkLitters();
        Texts.feed(x, "pines 4;draw 5;");
        Edges.due("end(15): all", x.end(15), 15);
        Edges.due("end(8)", x.end(8), 8);
        Edges.due("about(10)", x.about(10), 8);
        Edges.due("house()", x.house(), 0);
        Edges.due("about(13)", x.about(13), 4);
        Edges.due("about(5)", x.about(5), 0);
        Texts.feed(x, "pines 5;");
        Edges.due("end(0)", x.end(0), 0);
        Edges.due("about(10)", x.about(10), 0);
        Edges.due("house() of none", x.house(), 0);
        Edges.due("about(13)", x.about(13), 3);
        Edges.sentence("NONE, doing nothing, if it has not so many, or n is below 0");
        Edges.due("end(0) of nothing", new TrunkLitters().end(0), 0);
        Edges.due("end(1) of nothing", new TrunkLitters().end(1), -1);
        for (int n : new int[] {Integer.MIN_VALUE, -1600, -1, 16, 20, 1600, 1601, Integer.MAX_VALUE}) {
            Edges.nothing("end(" + n + ") of fifteen", o -> Texts.feed(o, "pines 4;draw 5;"), o -> o.end(n), -1);
        }
        Edges.nothing("end(9) of eight, though there were more", o -> {
            Texts.feed(o, "pines 4;draw 5;");
            o.end(8);
        }, o -> o.end(9), -1);
    }

    private static final String PAIR = "room r holds 40;trunk a bulk 8 at r marks 42 told 9;trunk b bulk 9 at r marks 21 told 9;"
        + "tales 9;draw 7;brood bulk;";

    /** All that a HOUSE can have behind some calls. */
    private static void live(TrunkLitters x) {
        Texts.house(x, PAIR);
        x.later(3);
        x.held(0, 5, true);
        x.year();
        x.image(0);
        x.tell(0);
        x.image(2);
        x.later(2);
        x.held(0, 4, false);
        x.untell(0);
        x.year();
        x.undo();
        x.pack();
    }

    private static void house() {
        Edges.sentence("The TAPE (empty then) is the HOUSE (all as told, year 0, no ACTS are kept, nothing is HELD, nothing lies "
            + "there, BOXES are empty then; the TIME stays): how many TRUNKS");
        TrunkLitters x = new TrunkLitters();
        live(x);
        Edges.about(x, 3, 1, 7, 8, 1, 30, 2, 1, 2, 5, 0, 1, 8, 3, 2);
        Edges.due("house() as told", Texts.house(x, PAIR), 2);
        Edges.about(x, 2, 1, 3, 9, 0, 7, 0, 0, 0, 5, 0, 1, 0, 3, 2);
        Edges.trunk(x, 0, 8, 0, 42, 9, 0, -1, -1);
        Edges.trunk(x, 1, 9, 0, 21, 9, 0, -1, -1);
        Edges.trunk(x, 2, -2);
        Edges.due("undo()", x.undo(), false);
        Edges.due("redo()", x.redo(), false);
        Edges.due("lies(0)", x.lies(0), -2);
        for (int box = 0; box < 3; box++) {
            Edges.due("back(" + box + ")", x.back(box), -1);
        }
        Edges.due("fits(5): nothing is HELD", x.fits(5), 64);
        Edges.due("untell(0)", x.untell(0), false);
        Edges.due("held: the first one", x.held(0, 0, true), 0);
        Edges.due("later(0)", x.later(0), 5);
        for (int trunks = 0; trunks <= 6; trunks++) {
            StringBuilder text = new StringBuilder(ROOM);
            for (int t = 0; t < trunks; t++) {
                text.append("trunk ").append((char) ('a' + t)).append(" bulk 1 at r marks 1;");
            }
            Edges.due("house() of " + trunks, Texts.house(x, text.toString()), trunks);
            Edges.due("about(14)", x.about(14), trunks);
        }
        Edges.due("house() of the empty TAPE", x.house(), 0);
        Edges.about(x, 0, 0, 0, 0, 0, 0, 0, 0, 0, 5, 0, 0, 0, 3, 0);
    }

    private static void houseStays() {
        Edges.sentence("NONE: a FAULT (the TAPE is empty then, too; all else stays)");
        for (String text : List.of("?", ROOM + "?", ROOM + "trunk a bulk 1 at r marks 1;pines 0;", "brood 1+2;pines 9;tales 9;x",
            "draw 5;tales 4;pines 8;brood 1+1+1", "room z holds 1;room z holds 1;", "brood ?", "brood not", "brood (1",
            "room q holds 7;room s holds 8;room t holds 9;room u holds 6;trunk c bulk 5 at q marks 9 told 4;"
            + "trunk d bulk 5 at s marks 9 told 4;trunk e bulk 5 at t marks 9 told 4;trunk f bulk 5 at z")) {
            TrunkLitters with = new TrunkLitters();
            TrunkLitters without = new TrunkLitters();
            live(with);
            live(without);
            Edges.due("house() of " + text, Texts.house(with, text), -1);
            Edges.due("about(10): the TAPE is empty", with.about(10), 0);
            for (int what = 0; what < 15; what++) {
                Edges.due("about(" + what + ")", with.about(what), without.about(what));
            }
            for (int t = 0; t < 8; t++) {
                for (int what = 0; what < 7; what++) {
                    Edges.due("trunk(" + t + ", " + what + ")", with.trunk(t, what), without.trunk(t, what));
                }
                Edges.due("lies(" + t + ")", with.lies(t), without.lies(t));
            }
            for (int r = 0; r < 4; r++) {
                Edges.due("room(" + r + ", 0)", with.room(r, 0), without.room(r, 0));
            }
            Edges.due("brood(0, 1)", with.brood(0, 1), without.brood(0, 1));
            Edges.due("law(9, 30)", with.law(9, 30), without.law(9, 30));
            Edges.due("fits(4)", with.fits(4), without.fits(4));
            Edges.due("fits(5)", with.fits(5), without.fits(5));
            Edges.due("redo()", with.redo(), without.redo());
            Edges.due("about(2)", with.about(2), without.about(2));
            Edges.due("undo()", with.undo(), without.undo());
            Edges.due("back(0)", with.back(0), without.back(0));
            Edges.due("back(1)", with.back(1), without.back(1));
            Edges.due("about(3)", with.about(3), without.about(3));
            Edges.due("house() of the empty TAPE", with.house(), 0);
            Edges.due("about(1)", with.about(1), 0);
        }
    }

    private static void houseForgets() {
        Edges.sentence("all as told");
        TrunkLitters x = Edges.told("room q holds 7;room s holds 8;room t holds 9;room u holds 6;trunk c bulk 5 at q marks 9 "
            + "told 4;trunk d bulk 5 at s marks 9 told 4;trunk e bulk 5 at t marks 9 told 4;pines 7;tales 6;draw 5;brood 4;");
        Edges.tell(x, "room r holds 3;");
        Edges.due("about(1)", x.about(1), 1);
        Edges.due("room(1, 0)", x.room(1, 0), -1);
        Edges.due("roomiest()", x.roomiest(), 0);
        Edges.due("about(0)", x.about(0), 0);
        Edges.due("bearers(0)", x.bearers(0), 0);
        Edges.due("pining()", x.pining(), 0);
        x.year();
        Edges.due("pining() behind a YEAR", x.pining(), 0);
        // nothing of a longer brood, nor of ROOMS that are no more, stays behind the end of what is told
        String pair = Edges.text("9 9", "8/a/1 7/b/1", "");
        for (String longer : List.of("not 5", "5 + 5", "5 and not 5", "not not 5", "5 * 5 + 5")) {
            Edges.tell(x, "brood " + longer + ";");
            Edges.tell(x, Edges.text("9", "1/a/1 1/a/1", "brood 5;"));
            Edges.due("brood(0, 1): 5, behind " + longer, x.brood(0, 1), 5);
            Edges.tell(x, "brood (" + longer + ") + (" + longer + ") and not 5;");
            Edges.tell(x, Edges.text("9", "1/a/1 1/a/1", "brood not 0;"));
            Edges.due("brood(0, 1): not 0, behind " + longer, x.brood(0, 1), 1);
        }
        Edges.tell(x, "brood not (5 + 5);");
        Edges.tell(x, Edges.text("9", "1/a/1 1/a/1", "brood 5 + 5;"));
        Edges.due("brood(0, 1): 5 + 5, behind not (5 + 5)", x.brood(0, 1), 10);
        Edges.tell(x, Edges.text("9 9 99 99", "8/a/1 7/b/1", ""));
        Edges.due("pack() in 99", x.pack(), 1);
        Edges.due("rivals(0, 1)", x.rivals(0, 1) > 0, true);
        Edges.tell(x, pair);
        Edges.due("rivals(0, 1): as in the two ROOMS that there are", x.rivals(0, 1), 2);
        Edges.lie(x, 0, 1);
        Edges.due("pack() in the two ROOMS that there are", x.pack(), 2);
        Edges.lie(x, 0, 1, -1, -1, -1, -1, -1, -1);
        Edges.due("rivals(0, 1) behind pack()", x.rivals(0, 1), 2);
        Edges.lie(x, 0, 1);
        Edges.due("best(0, 0)", x.best(0, 0), 0);
        // who pined, and was whose young, is nobody's matter in the next HOUSE
        live(x);
        x.year();
        Edges.tell(x, "room r holds 40;trunk a bulk 1 at r marks 1;trunk b bulk 1 at r marks 1;trunk c bulk 1 at r marks 1;"
            + "trunk d bulk 1 at r marks 1;");
        for (int t = 0; t < 4; t++) {
            Edges.trunk(x, t, 1, 0, 1, 0, 0, -1, -1);
        }
    }

    private static void faultOfTheLatest() {
        Edges.sentence("Of the latest house() what 0: its FAULT (0: without; ahead of any, too), 1: its place (NONE). NONE for "
            + "another what.");
        TrunkLitters x = new TrunkLitters();
        Edges.due("fault(0) ahead of any", x.fault(0), 0);
        Edges.due("fault(1) ahead of any", x.fault(1), -1);
        Texts.house(x, "pines 0;");
        Edges.due("fault(0)", x.fault(0), 4);
        Edges.due("fault(1)", x.fault(1), 6);
        Edges.due("fault(0) again", x.fault(0), 4);
        Texts.feed(x, "?");
        Edges.due("fault(0): only a house() tells", x.fault(0), 4);
        x.house();
        Edges.due("fault(0)", x.fault(0), 1);
        Edges.due("fault(1)", x.fault(1), 0);
        Edges.never("fault(#)", x::fault, -1, Integer.MIN_VALUE, -2, -1, 2, 3, 256, 1 << 30, Integer.MAX_VALUE);
        x.house();
        Edges.due("fault(0) of the empty TAPE", x.fault(0), 0);
        Edges.due("fault(1) of the empty TAPE", x.fault(1), -1);
        Texts.house(x, "?");
        Texts.house(x, "pines 1;");
        Edges.due("fault(0) without", x.fault(0), 0);
        Edges.due("fault(1) without", x.fault(1), -1);
        Edges.never("fault(#)", x::fault, -1, -1, 2);
    }
}
