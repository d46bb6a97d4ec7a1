/** The boundary cases of "Terms" 2 and of promises 6 to 15: places, COUPLES, BROOD, YEARS and other ACTS. */
public final class YearEdgesTest {
    public static void main(String[] args) {
        eightPlaces();
        noPlaceFree();
        bulkTwenty();
        left();
        notListeningYet();
        pines();
        parentsGone();
        roomNumbers();
        trunkNumbers();
        broodKinds();
        broodWraps();
        broodCuts();
        broodTruths();
        broodNone();
        coupleOfLike();
        coupleNone();
        listens();
        fallsApart();
        growsInTurn();
        growsNot();
        broodAboveNought();
        youngBulk();
        youngRoom();
        seed();
        youngMarks();
        youngElse();
        roomByRoom();
        yearsGoUp();
        lastYear();
        carry();
        tell();
        lose();
        fortyActs();
        undo();
        redo();
        refusedActsAreNone();
        Edges.close();
    }

    private static void eightPlaces() {
        Edges.sentence("There are eight places for TRUNKS (0 .. 7; those told at first; young ones come to the first free one).");
        TrunkLitters x = Edges.told("99", "1/a/0/9 1/a/0/9 1/a/0/9 1/a/0/9 1/a/0/9 1/a/0/9", "brood 1;pines 9;");
        Edges.due("about(2)", x.about(2), 63);
        Edges.due("year(): to 6", x.year(), 64);
        Edges.due("year(): to 7", x.year(), 128);
        Edges.due("about(2)", x.about(2), 255);
        Edges.due("trunk(7, 0)", x.trunk(7, 0), 1);
        Edges.due("year(): to none", x.year(), 0);
        x.image(0);
        for (int t = 0; t < 8; t++) {
            x.back(0);
            x.lose(t);
            Edges.due("year(): to " + t, x.year(), 1 << t);
        }
        x.back(0);
        x.lose(6);
        x.lose(2);
        x.lose(4);
        Edges.due("year(): to the first free one", x.year(), 4);
        Edges.due("year(): to the next one", x.year(), 16);
        Edges.due("about(2)", x.about(2) & 64, 0);
    }

    private static void noPlaceFree() {
        Edges.sentence("a place is free");
        // two ROOMS, two COUPLES, one place: the first ROOM's young one alone comes, one SEED is drawn
        TrunkLitters x = Edges.told("60 60", "1/a/0/9 1/a/0/9 1/b/0/9 1/b/0/9 1/b/0/9 1/b/0/9", "brood 1;draw 1;");
        Edges.due("year(): both", x.year(), 64 + 128);
        x.lose(7);
        int seed = x.about(5);
        Edges.due("ripe(): each by itself", x.ripe(), 3);
        Edges.due("year(): one place", x.year(), 128);
        Edges.due("trunk(7, 1): of the first ROOM", x.trunk(7, 1), 0);
        Edges.due("about(5): drawn once", x.about(5), (seed * 137 + 71) % 1000);
        seed = x.about(5);
        Edges.due("ripe(): no place", x.ripe(), 0);
        Edges.due("year(): no place", x.year(), 0);
        Edges.due("about(5): not drawn", x.about(5), seed);
        // what falls apart in a YEAR leaves a place in it
        x = Edges.told("60", "1/a/0/9 1/a/0/9 1/a/0/9 1/a/0/9 1/a/0/9 1/a/0/2", "brood 1;pines 2;");
        x.year();
        x.year();
        Edges.due("about(2): all, 6 came one ahead of 7", x.about(2), 255);
        Edges.due("year(): 6 pines two YEARS and is gone", x.year(), 64);
    }

    private static void bulkTwenty() {
        Edges.sentence("has BULK below 20 grows by 1");
        TrunkLitters x = Edges.told("99", "18/a/0/9 19/a/0/9 20/a/0/9", "brood 0;");
        x.year();
        Edges.due("trunk(0, 0)", x.trunk(0, 0), 19);
        Edges.due("trunk(1, 0)", x.trunk(1, 0), 20);
        Edges.due("trunk(2, 0)", x.trunk(2, 0), 20);
        x.year();
        Edges.due("trunk(0, 0)", x.trunk(0, 0), 20);
        Edges.due("trunk(1, 0)", x.trunk(1, 0), 20);
        x.year();
        Edges.due("room(0, 1)", x.room(0, 1), 99 - 60);
    }

    private static void left() {
        Edges.sentence("LEFT in a ROOM is what it holds less the BULK of TRUNKS there.");
        TrunkLitters x = Edges.told("20 9 0", "5/a/1 9/b/1 7/a/1", "");
        Edges.due("room(0, 1)", x.room(0, 1), 8);
        Edges.due("room(1, 1): full", x.room(1, 1), 0);
        Edges.due("room(2, 1): holds none", x.room(2, 1), 0);
        x.lose(1);
        Edges.due("room(1, 1)", x.room(1, 1), 9);
        x.carry(2, 1);
        Edges.due("room(0, 1)", x.room(0, 1), 15);
        Edges.due("room(1, 1)", x.room(1, 1), 2);
    }

    private static void notListeningYet() {
        Edges.sentence("was TOLD so many tales that it has not listened to yet, PINES so long (0 at first)");
        TrunkLitters x = Edges.told("20", "5/a/1/3 5/a/1 5/a/1/0", "pines 9;");
        Edges.due("trunk(0, 3)", x.trunk(0, 3), 3);
        for (int t = 0; t < 3; t++) {
            Edges.due("trunk(" + t + ", 4)", x.trunk(t, 4), 0);
        }
        Edges.due("pining()", x.pining(), 0);
        for (int year = 1; year <= 5; year++) {
            x.year();
            Edges.due("trunk(0, 3)", x.trunk(0, 3), Math.max(0, 3 - year));
            Edges.due("trunk(0, 4)", x.trunk(0, 4), Math.max(0, year - 3));
            Edges.due("trunk(1, 4)", x.trunk(1, 4), year);
        }
    }

    private static void pines() {
        Edges.sentence("if that is so long as pines tells, it falls apart (it is gone)");
        for (int p = 1; p <= 9; p++) {
            TrunkLitters x = Edges.told("20", "5/a/1 5/a/1/1", "brood 0;pines " + p + ";");
            for (int year = 1; year < p; year++) {
                x.year();
                Edges.due("about(2) behind " + year + " of " + p, x.about(2), 3);
                Edges.due("trunk(0, 4)", x.trunk(0, 4), year);
            }
            Edges.due("year()", x.year(), 0);
            Edges.due("about(2) behind all " + p, x.about(2), 2);
            Edges.due("trunk(0, 4)", x.trunk(0, 4), -2);
            Edges.due("room(0, 2)", x.room(0, 2), 2);
            x.year();
            Edges.due("about(2) one later", x.about(2), 0);
        }
        TrunkLitters x = Edges.told("20", "5/a/1", "");
        x.year();
        x.year();
        Edges.due("about(2): 3 if not told", x.about(2), 1);
        x.year();
        Edges.due("about(2): 3 if not told", x.about(2), 0);
    }

    private static void parentsGone() {
        Edges.sentence("has two PARENTS (none at first; a PARENT that is gone is none from then on, whoever comes to its place)");
        String pair = Edges.text("60 60", "9/a/42/9 8/a/21/9", "brood bulk > 9;tales 20;");
        TrunkLitters x = Edges.told(pair);
        Edges.trunk(x, 0, 9, 0, 42, 9, 0, -1, -1);
        x.year();
        Edges.due("trunk(2, 5)", x.trunk(2, 5), 0);
        Edges.due("trunk(2, 6)", x.trunk(2, 6), 1);
        x.lose(0);
        Edges.due("trunk(2, 5): thrown out", x.trunk(2, 5), -1);
        Edges.due("trunk(2, 6)", x.trunk(2, 6), 1);
        x.tell(2);
        Edges.due("year(): of 1 and 2, to the place of 0", x.year(), 1);
        Edges.due("trunk(2, 5): whoever comes", x.trunk(2, 5), -1);
        Edges.due("trunk(2, 6)", x.trunk(2, 6), 1);
        Edges.due("trunk(0, 5)", x.trunk(0, 5), 1);
        Edges.due("trunk(0, 6)", x.trunk(0, 6), 2);
        Edges.due("litter(0)", x.litter(0), 0);
        x.lose(1);
        Edges.due("trunk(2, 6): the other one, too", x.trunk(2, 6), -1);
        Edges.due("trunk(0, 5)", x.trunk(0, 5), -1);
        Edges.due("trunk(0, 6)", x.trunk(0, 6), 2);
        // one that falls apart, and a young one comes to its place in the same YEAR: 0 has a tale for each YEAR, 1 has one
        x = Edges.told("60", "9/a/42/9 8/a/21/1 2/a/5/9 2/a/5/9 1/a/5/9 1/a/5/9", "brood 1;pines 1;tales 20;");
        Edges.due("year(): of 0 and 1", x.year(), 64);
        Edges.due("trunk(6, 6)", x.trunk(6, 6), 1);
        x.tell(6);
        Edges.due("year(): of 0 and 6, to the place of 1", x.year(), 2);
        Edges.due("trunk(6, 5)", x.trunk(6, 5), 0);
        Edges.due("trunk(6, 6): fell apart", x.trunk(6, 6), -1);
        Edges.due("trunk(1, 5)", x.trunk(1, 5), 0);
        // carried elsewhere they stay PARENTS
        x = Edges.told(pair);
        x.year();
        x.carry(0, 1);
        x.carry(2, 1);
        Edges.due("trunk(2, 5)", x.trunk(2, 5), 0);
        Edges.due("trunk(2, 6)", x.trunk(2, 6), 1);
    }

    private static void roomNumbers() {
        Edges.sentence("Of a ROOM what 0: what it holds, 1: LEFT, 2: TRUNKS there, as bits; NONE if there is none such, or for "
            + "another what.");
        TrunkLitters x = Edges.told("20 0", "5/a/1 6/a/1", "");
        Edges.due("room(0, 0)", x.room(0, 0), 20);
        Edges.due("room(0, 1)", x.room(0, 1), 9);
        Edges.due("room(0, 2)", x.room(0, 2), 3);
        Edges.due("room(1, 0)", x.room(1, 0), 0);
        Edges.due("room(1, 1)", x.room(1, 1), 0);
        Edges.due("room(1, 2)", x.room(1, 2), 0);
        for (int what = 0; what < 3; what++) {
            int w = what;
            Edges.due("room(2, " + w + ")", x.room(2, w), -1);
            Edges.due("room(3, " + w + ")", x.room(3, w), -1);
            Edges.due("room(4, " + w + ")", x.room(4, w), -1);
            Edges.never("room(#, " + w + ")", r -> x.room(r, w), -1, Edges.FAR);
        }
        Edges.due("room(0, 3)", x.room(0, 3), -1);
        Edges.never("room(0, #)", what -> x.room(0, what), -1, Edges.FAR);
        TrunkLitters four = Edges.told("1 2 3 4", "", "");
        Edges.due("room(3, 0)", four.room(3, 0), 4);
        Edges.due("room(4, 0)", four.room(4, 0), -1);
    }

    private static void trunkNumbers() {
        Edges.sentence("Of a TRUNK what 0: BULK, .. 6: the other one; -2 if there is none such, or for another what.");
        TrunkLitters x = Edges.told("20 20", "5/a/1 6/b/63/4", "");
        Edges.trunk(x, 0, 5, 0, 1, 0, 0, -1, -1);
        Edges.trunk(x, 1, 6, 1, 63, 4, 0, -1, -1);
        Edges.due("trunk(0, 7)", x.trunk(0, 7), -2);
        Edges.never("trunk(0, #)", what -> x.trunk(0, what), -2, Edges.FAR);
        for (int what = 0; what < 7; what++) {
            int w = what;
            Edges.never("trunk(#, " + w + ")", t -> x.trunk(t, w), -2, 2, 3, 4, 5, 6, 7);
            Edges.never("trunk(#, " + w + ")", t -> x.trunk(t, w), -2, -1, 8, 32, 33, Integer.MIN_VALUE, Integer.MAX_VALUE);
        }
        Edges.never("trunk(#, 0)", t -> x.trunk(t, 0), -2, Edges.FAR);
        x.lose(0);
        for (int what = 0; what < 7; what++) {
            Edges.due("trunk(0, " + what + "): gone", x.trunk(0, what), -2);
        }
    }

    /** BROOD of BULK 8, MARKS 40 and BULK 9, MARKS 21 in a ROOM of 40. */
    private static int comes(String formula) {
        return Edges.told("40", "8/a/40/9 9/a/21/9", "brood " + formula + ";").brood(0, 1);
    }

    private static void broodKinds() {
        Edges.sentence("bulk (of both together), alike (how many of six MARKS both have or both have not), left (in their ROOM), "
            + "many (how many TRUNKS there are in all), year (0 at first)");
        TrunkLitters x = Edges.told("40 30", "8/a/40/9 9/a/21/9 5/a/63/9 4/b/0/9 3/b/63/9 2/b/5/9", "brood bulk;");
        Edges.due("bulk", x.brood(0, 1), 17);
        Edges.due("bulk, the other way round", x.brood(1, 0), 17);
        Edges.due("bulk in another ROOM", x.brood(4, 3), 7);
        x = Edges.told("40 30", "8/a/40/9 9/a/21/9 5/a/63/9 4/b/0/9 3/b/63/9 2/b/5/9", "brood alike;");
        Edges.due("alike of 40 and 21: bit 1", x.brood(0, 1), 1);
        Edges.due("alike of 40 and 63", x.brood(0, 2), 2);
        Edges.due("alike of 0 and 63: none", x.brood(3, 4), 0);
        Edges.due("alike of 0 and 5", x.brood(3, 5), 4);
        Edges.due("alike of like ones: all six", Edges.told("9", "1/a/9 1/a/9", "brood alike;").brood(0, 1), 6);
        x = Edges.told("40 30", "8/a/40/9 9/a/21/9 5/a/63/9 4/b/0/9 3/b/63/9 2/b/5/9", "brood left;");
        Edges.due("left of 40", x.brood(0, 1), 18);
        Edges.due("left of 30", x.brood(3, 4), 21);
        Edges.due("left of none", Edges.told("2", "1/a/9 1/a/9", "brood left;").brood(0, 1), 0);
        x = Edges.told("40 30", "8/a/40/9 9/a/21/9 5/a/63/9 4/b/0/9 3/b/63/9 2/b/5/9", "brood many;");
        Edges.due("many in all ROOMS", x.brood(0, 1), 6);
        x.lose(5);
        Edges.due("many without the last one", x.brood(0, 1), 5);
        x = Edges.told("40", "8/a/40/9 9/a/21/9", "brood year;");
        for (int year = 0; year < 5; year++) {
            Edges.due("year", x.brood(0, 1), year);
            x.year();
            x.lose(2);
        }
        Edges.sentence("alike - many, if it is not told");
        x = Edges.told("40", "8/a/40/9 9/a/40/9 5/a/23/9", "");
        Edges.due("6 alike, 3 in all", x.brood(0, 1), 3);
        Edges.due("0 alike, 3 in all", x.brood(0, 2), -3);
    }

    private static void broodWraps() {
        Edges.sentence("ints, wrapping");
        Edges.due("9999 * 9999", comes("9999*9999"), 99980001);
        Edges.due("beyond 2147483647", comes("9999*9999*22"), (int) (99980001L * 22));
        Edges.due("2147483647", comes("(8192*8192*16-1)*2+1"), Integer.MAX_VALUE);
        Edges.due("2147483647 + 1", comes("(8192*8192*16-1)*2+2"), Integer.MIN_VALUE);
        Edges.due("-2147483648", comes("0-8192*8192*32"), Integer.MIN_VALUE);
        Edges.due("-2147483648 - 1", comes("0-8192*8192*32-1"), Integer.MAX_VALUE);
        Edges.due("2^32 is 0", comes("8192*8192*64"), 0);
        Edges.due("not 2^32", comes("not 8192*8192*64"), 1);
        Edges.due("-2147483648 / -1", comes("8192*8192*32/(0-1)"), Integer.MIN_VALUE);
        Edges.due("-2147483648 % -1", comes("8192*8192*32%(0-1)"), 0);
        Edges.due("-2147483648 < 0", comes("8192*8192*32<0"), 1);
        TrunkLitters x = Edges.told("40", "8/a/40/9 9/a/21/9", "brood 8192*8192*32;");
        Edges.due("year(): wrapped below 0 nothing comes", x.year(), 0);
        x = Edges.told("40", "8/a/40/9 9/a/21/9", "brood 8192*8192*32-1;");
        Edges.due("year(): wrapped above 0 one comes", x.year(), 4);
    }

    private static void broodCuts() {
        Edges.sentence("/ cut, % its rest, both by 0: 0");
        int[][] due = {{7, 2, 3, 1}, {6, 3, 2, 0}, {1, 2, 0, 1}, {0, 5, 0, 0}, {5, 0, 0, 0}, {0, 0, 0, 0}, {9999, 10, 999, 9}};
        for (int[] d : due) {
            Edges.due(d[0] + " / " + d[1], comes(d[0] + "/" + d[1]), d[2]);
            Edges.due(d[0] + " % " + d[1], comes(d[0] + "%" + d[1]), d[3]);
        }
        Edges.due("-7 / 2", comes("(0-7)/2"), -3);
        Edges.due("-7 % 2", comes("(0-7)%2"), -1);
        Edges.due("7 / -2", comes("7/(0-2)"), -3);
        Edges.due("7 % -2", comes("7%(0-2)"), 1);
        Edges.due("-7 / -2", comes("(0-7)/(0-2)"), 3);
        Edges.due("-7 % -2", comes("(0-7)%(0-2)"), -1);
        Edges.due("-1 / 2", comes("(0-1)/2"), 0);
        Edges.due("-5 / 0", comes("(0-5)/0"), 0);
        Edges.due("-5 % 0", comes("(0-5)%0"), 0);
        Edges.due("5 / (bulk - 17)", comes("5/(bulk-17)"), 0);
        Edges.due("5 / (bulk - 16)", comes("5/(bulk-16)"), 5);
        Edges.due("0 that came of / 0 works on", comes("5/0+3%0+2"), 2);
        Edges.due("from the left", comes("100/10/5"), 2);
        Edges.due("from the left", comes("100/10*5"), 50);
        Edges.due("from the left", comes("17%10*3"), 21);
        Edges.due("from the left", comes("10-4-3"), 3);
        Edges.due("from the left", comes("10-4+3"), 9);
        Edges.due("term ahead of sum", comes("2+3*4"), 14);
        Edges.due("term ahead of sum", comes("20-12/4"), 17);
        Edges.due("( e )", comes("(2+3)*4"), 20);
    }

    private static void broodTruths() {
        Edges.sentence("relations, and, or, not are 1 or 0, of what is not 0");
        int[][] pairs = {{1, 2}, {2, 2}, {2, 1}, {0, 0}, {0, 9999}};
        for (int[] p : pairs) {
            Edges.due(p[0] + " < " + p[1], comes(p[0] + "<" + p[1]), p[0] < p[1] ? 1 : 0);
            Edges.due(p[0] + " > " + p[1], comes(p[0] + ">" + p[1]), p[0] > p[1] ? 1 : 0);
            Edges.due(p[0] + " = " + p[1], comes(p[0] + "=" + p[1]), p[0] == p[1] ? 1 : 0);
        }
        Edges.due("-1 < 0", comes("0-1<0"), 1);
        Edges.due("0 > -1", comes("0>0-1"), 1);
        int[] values = {0, 1, 2, 9999, -1};
        for (int a : values) {
            String p = a < 0 ? "(0-1)" : "" + a;
            Edges.due("not " + p, comes("not " + p), a == 0 ? 1 : 0);
            Edges.due("not not " + p, comes("not not " + p), a == 0 ? 0 : 1);
            for (int b : values) {
                String q = b < 0 ? "(0-1)" : "" + b;
                Edges.due(p + " and " + q, comes(p + " and " + q), a != 0 && b != 0 ? 1 : 0);
                Edges.due(p + " or " + q, comes(p + " or " + q), a != 0 || b != 0 ? 1 : 0);
            }
        }
        Edges.due("one alone stays as it is", comes("7"), 7);
        Edges.due("one alone in ( e )", comes("(7)"), 7);
        Edges.due("and ahead of or", comes("1 or 1 and 0"), 1);
        Edges.due("or in ( e )", comes("(1 or 1) and 0"), 0);
        Edges.due("not of a relation", comes("not 2>1"), 0);
        Edges.due("not ahead of and", comes("not 0 and 0"), 0);
        Edges.due("not ahead of or", comes("not 1 or 1"), 1);
        Edges.due("sums ahead of relations", comes("1+2=2+1"), 1);
        Edges.due("a relation in a sum", comes("(2>1)+(3>1)"), 2);
        Edges.due("three and", comes("1 and 2 and 3"), 1);
        Edges.due("three and, the last one 0", comes("1 and 2 and 0"), 0);
        Edges.due("three or", comes("0 or 0 or 3"), 1);
    }

    private static void broodNone() {
        Edges.sentence("BROOD (whether they PINE or not); -1000000000 if both are one, not in one ROOM, or one can't be.");
        int none = -1000000000;
        TrunkLitters x = Edges.told("40 40", "8/a/40/1 9/a/21 5/b/1/9", "brood 5;pines 9;");
        Edges.due("brood(0, 1)", x.brood(0, 1), 5);
        Edges.due("brood(1, 0)", x.brood(1, 0), 5);
        for (int t = 0; t < 8; t++) {
            Edges.due("brood(" + t + ", " + t + ")", x.brood(t, t), none);
        }
        Edges.due("brood(0, 2)", x.brood(0, 2), none);
        Edges.due("brood(2, 1)", x.brood(2, 1), none);
        Edges.never("brood(0, #)", t -> x.brood(0, t), none, 3, 4, 5, 6, 7);
        Edges.never("brood(#, 0)", t -> x.brood(t, 0), none, 3, 4, 5, 6, 7);
        Edges.never("brood(0, #)", t -> x.brood(0, t), none, Edges.FAR);
        Edges.never("brood(#, 0)", t -> x.brood(t, 0), none, Edges.FAR);
        Edges.never("brood(#, #)", t -> x.brood(t, t), none, Edges.FAR);
        x.carry(2, 0);
        Edges.due("brood(0, 2) carried", x.brood(0, 2), 5);
        x.year();
        x.year();
        Edges.due("pining(): these two, and the young one of 0 and 2", x.pining(), 1 + 2 + 8);
        Edges.due("brood(0, 1): both PINE", x.brood(0, 1), 5);
        Edges.due("brood(0, 2): one PINES", x.brood(0, 2), 5);
        x.lose(1);
        Edges.due("brood(0, 1): gone", x.brood(0, 1), none);
    }

    private static void coupleOfLike() {
        Edges.sentence("of TRUNKS there that do not PINE (0) the two of the greatest BULK, of like ones of the least numbers");
        Edges.due("three alike", Edges.told("40", "5/a/1 5/a/1 5/a/1", "").couple(0), 0 * 8 + 1);
        Edges.due("the greatest one last", Edges.told("40", "5/a/1 5/a/1 6/a/1", "").couple(0), 2 * 8 + 0);
        Edges.due("two greater ones last", Edges.told("40", "5/a/1 6/a/1 6/a/1", "").couple(0), 1 * 8 + 2);
        Edges.due("one after the other", Edges.told("40", "5/a/1 7/a/1 6/a/1", "").couple(0), 1 * 8 + 2);
        Edges.due("the greater one has the greater number", Edges.told("40", "5/a/1 4/a/1 7/a/1 6/a/1", "").couple(0), 2 * 8 + 3);
        Edges.due("the other one is the lesser number", Edges.told("40", "4/a/1 6/a/1 7/a/1 6/a/1", "").couple(0), 2 * 8 + 1);
        Edges.due("two", Edges.told("40", "1/a/1 20/a/1", "").couple(0), 1 * 8 + 0);
        Edges.due("of its ROOM alone", Edges.told("40 40", "20/b/1 5/a/1 20/b/1 6/a/1", "").couple(0), 3 * 8 + 1);
        Edges.due("of its ROOM alone", Edges.told("40 40", "20/b/1 5/a/1 20/b/1 6/a/1", "").couple(1), 0 * 8 + 2);
        TrunkLitters x = Edges.told("60", "9/a/1 8/a/1/9 7/a/1/9 6/a/1/9", "brood 0;pines 9;tales 9;");
        Edges.due("none PINES", x.couple(0), 0 * 8 + 1);
        x.year();
        Edges.due("the greatest PINES 1", x.couple(0), 1 * 8 + 2);
        x.tell(0);
        Edges.due("told, but it has not listened", x.couple(0), 1 * 8 + 2);
        x.year();
        Edges.due("it PINES 0 again, and both are 10 now", x.couple(0), 0 * 8 + 1);
    }

    private static void coupleNone() {
        Edges.sentence("NONE if there is none, or no such ROOM; none, if there are fewer");
        TrunkLitters x = Edges.told("40 40 40", "5/a/1/9 6/a/1 7/b/1", "brood 0;pines 9;");
        Edges.due("couple(0) of two", x.couple(0), 1 * 8 + 0);
        Edges.due("couple(1) of one", x.couple(1), -1);
        Edges.due("couple(2) of none", x.couple(2), -1);
        Edges.due("couple(3): no such ROOM", x.couple(3), -1);
        Edges.never("couple(#)", x::couple, -1, Edges.FAR);
        x.year();
        Edges.due("couple(0): one of two PINES", x.couple(0), -1);
        Edges.due("couple(4) of four", Edges.told("1 1 1 1", "", "").couple(4), -1);
        Edges.due("couple(0) without ROOMS", new TrunkLitters().couple(0), -1);
    }

    private static void listens() {
        Edges.sentence("if it was TOLD one at least, it listens: it has one less, PINES 0; else it PINES one longer");
        TrunkLitters x = Edges.told("60", "1/a/1 1/a/1/1 1/a/1/2 1/a/1/9", "brood 0;pines 9;tales 9;");
        x.year();
        int[][] due = {{0, 1}, {0, 0}, {1, 0}, {8, 0}};
        for (int t = 0; t < 4; t++) {
            Edges.due("trunk(" + t + ", 3)", x.trunk(t, 3), due[t][0]);
            Edges.due("trunk(" + t + ", 4)", x.trunk(t, 4), due[t][1]);
        }
        x.year();
        x.year();
        Edges.due("trunk(0, 4)", x.trunk(0, 4), 3);
        x.tell(0);
        x.tell(0);
        Edges.due("trunk(0, 4): told alone changes nothing", x.trunk(0, 4), 3);
        x.year();
        Edges.due("trunk(0, 4): 0, not one less", x.trunk(0, 4), 0);
        Edges.due("trunk(0, 3): one less", x.trunk(0, 3), 1);
        Edges.due("about(3): listening costs no tales of those that there are", x.about(3), 7);
        // the last YEAR that it can wait
        x = Edges.told("60", "1/a/1", "pines 2;tales 1;");
        x.year();
        x.tell(0);
        x.year();
        Edges.due("about(2): told in time", x.about(2), 1);
        x.year();
        Edges.due("trunk(0, 4)", x.trunk(0, 4), 1);
        x.year();
        Edges.due("about(2): told no more", x.about(2), 0);
    }

    private static void fallsApart() {
        Edges.sentence("Then, TRUNK by TRUNK, one that does not PINE .. grows (what fell apart is gone by then)");
        TrunkLitters x = Edges.told("10", "5/a/1/9 5/a/1", "brood 0;pines 1;");
        x.year();
        Edges.due("trunk(0, 0): the other one made room", x.trunk(0, 0), 6);
        x = Edges.told("10", "5/a/1/9 5/a/1", "brood 0;pines 2;");
        x.year();
        Edges.due("trunk(0, 0): the other one pines, but stands there", x.trunk(0, 0), 5);
        Edges.due("all at once", Edges.told("30", "5/a/1 5/a/1 5/a/1", "pines 1;").alive(1), 0);
    }

    private static void growsInTurn() {
        Edges.sentence("TRUNK by TRUNK .. grows by 1, if there is 1 LEFT at least in its ROOM then");
        for (int left = 0; left <= 4; left++) {
            TrunkLitters x = Edges.told((9 + left) + " 40", "3/a/1/9 3/a/1/9 3/a/1/9", "brood 0;");
            x.year();
            for (int t = 0; t < 3; t++) {
                Edges.due("trunk(" + t + ", 0) with " + left + " LEFT", x.trunk(t, 0), t < left ? 4 : 3);
            }
        }
        // by places, not by who came first
        TrunkLitters x = Edges.told("10 30", "2/b/1/9 3/a/1/9 4/a/1/9", "brood 0;");
        x.carry(0, 0);
        x.year();
        Edges.due("trunk(0, 0): the first place, though it came last", x.trunk(0, 0), 3);
        Edges.due("trunk(1, 0)", x.trunk(1, 0), 3);
        Edges.due("trunk(2, 0)", x.trunk(2, 0), 4);
    }

    private static void growsNot() {
        Edges.sentence("one that does not PINE and has BULK below 20 grows by 1");
        TrunkLitters x = Edges.told("60 60", "5/a/1 5/a/1/1 5/b/1/2", "brood 0;pines 9;tales 9;");
        x.year();
        Edges.due("trunk(0, 0): it PINES", x.trunk(0, 0), 5);
        Edges.due("trunk(1, 0)", x.trunk(1, 0), 6);
        Edges.due("trunk(2, 0)", x.trunk(2, 0), 6);
        x.tell(0);
        x.year();
        Edges.due("trunk(0, 0): it listened", x.trunk(0, 0), 6);
        Edges.due("trunk(1, 0): it PINES", x.trunk(1, 0), 6);
        Edges.due("trunk(2, 0)", x.trunk(2, 0), 7);
        // one that came in this YEAR does not grow in it
        x = Edges.told("60", "5/a/1/9 5/a/1/9", "brood 1;");
        x.year();
        Edges.due("trunk(2, 0): a quarter of 12", x.trunk(2, 0), 3);
    }

    private static void broodAboveNought() {
        Edges.sentence("their BROOD is above 0");
        Edges.due("1", Edges.told("60", "5/a/1/9 5/a/1/9", "brood 1;").year(), 4);
        Edges.due("0", Edges.told("60", "5/a/1/9 5/a/1/9", "brood 0;").year(), 0);
        Edges.due("-1", Edges.told("60", "5/a/1/9 5/a/1/9", "brood 0-1;").year(), 0);
        // by what is then: grown to 6 and 6, year 0 yet
        Edges.due("bulk > 11", Edges.told("60", "5/a/1/9 5/a/1/9", "brood bulk > 11;").year(), 4);
        Edges.due("bulk > 12", Edges.told("60", "5/a/1/9 5/a/1/9", "brood bulk > 12;").year(), 0);
        Edges.due("left > 47", Edges.told("60", "5/a/1/9 5/a/1/9", "brood left > 47;").year(), 4);
        Edges.due("left > 48", Edges.told("60", "5/a/1/9 5/a/1/9", "brood left > 48;").year(), 0);
        TrunkLitters x = Edges.told("60", "5/a/1/9 5/a/1/9", "brood year;");
        Edges.due("year 0", x.year(), 0);
        Edges.due("year 1", x.year(), 4);
        // alike - many: six alike are more than five TRUNKS, not than six
        Edges.due("6 - 5", Edges.told("60", "5/a/1/9 5/a/1/9 1/a/1/9 1/a/1/9 1/a/1/9", "").year(), 32);
        Edges.due("6 - 6", Edges.told("60", "5/a/1/9 5/a/1/9 1/a/1/9 1/a/1/9 1/a/1/9 1/a/1/9", "").year(), 0);
    }

    private static void youngBulk() {
        Edges.sentence("their young's BULK (a quarter of both together, cut, 1 at least) is no more than is LEFT there");
        // they grow by one each ahead of it
        int[][] due = {{1, 1, 1}, {1, 2, 1}, {2, 2, 1}, {2, 3, 1}, {3, 3, 2}, {4, 5, 2}, {4, 6, 3}, {5, 5, 3}, {19, 19, 10},
            {20, 20, 10}, {20, 18, 9}};
        for (int[] d : due) {
            int both = Math.min(20, d[0] + 1) + Math.min(20, d[1] + 1);
            String trunks = d[0] + "/a/1/9 " + d[1] + "/a/1/9";
            TrunkLitters x = Edges.told("" + (both + d[2]), trunks, "brood 1;");
            Edges.due("year() of " + both + ", just so much LEFT", x.year(), 4);
            Edges.due("trunk(2, 0) of " + both, x.trunk(2, 0), d[2]);
            Edges.due("room(0, 1)", x.room(0, 1), 0);
            x = Edges.told("" + (both + d[2] - 1), trunks, "brood 1;draw 5;");
            Edges.due("year() of " + both + ", one less LEFT", x.year(), 0);
            Edges.due("about(5): no SEED is drawn", x.about(5), 5);
        }
        // of 2, of 3 a quarter is none: 1 at least. They grow ahead of it if they can, so that ripe() alone shows this
        Edges.due("ripe() of 2, 1 LEFT", Edges.told("3", "1/a/1/9 1/a/1/9", "brood 1;").ripe(), 1);
        Edges.due("ripe() of 2, none LEFT", Edges.told("2", "1/a/1/9 1/a/1/9", "brood 1;").ripe(), 0);
        Edges.due("ripe() of 3, 1 LEFT", Edges.told("4", "1/a/1/9 2/a/1/9", "brood 1;").ripe(), 1);
        Edges.due("ripe() of 3, none LEFT", Edges.told("3", "1/a/1/9 2/a/1/9", "brood 1;").ripe(), 0);
        Edges.due("ripe() of 7, 1 LEFT", Edges.told("8", "3/a/1/9 4/a/1/9", "brood 1;").ripe(), 1);
        Edges.due("ripe() of 8, 1 LEFT", Edges.told("9", "4/a/1/9 4/a/1/9", "brood 1;").ripe(), 0);
        Edges.due("ripe() of 8, 2 LEFT", Edges.told("10", "4/a/1/9 4/a/1/9", "brood 1;").ripe(), 1);
        TrunkLitters x = Edges.told("3", "1/a/1/9 1/a/1/9", "brood 1;");
        Edges.due("year() of 2: 1 LEFT is grown into", x.year(), 0);
        Edges.due("room(0, 1)", x.room(0, 1), 0);
    }

    private static void youngRoom() {
        Edges.sentence("the young one .. stands there, was TOLD none, PINES 0");
        TrunkLitters x = Edges.told("9 60", "5/b/1/9 6/b/1/9", "brood 1;pines 2;");
        Edges.due("year()", x.year(), 4);
        Edges.trunk(x, 2, 3, 1, 1, 0, 0, 1, 0);
        x.year();
        Edges.due("trunk(2, 4): told none", x.trunk(2, 4), 1);
        Edges.due("year(): it fell apart, another one is there", x.year() & 4, 4);
        Edges.due("trunk(2, 4)", x.trunk(2, 4), 0);
    }

    private static void seed() {
        Edges.sentence("the SEED (draw, at first) becomes its 137-fold and 71 more, modulo 1,000");
        int[][] due = {{0, 71}, {1, 208}, {7, 30}, {999, 934}, {500, 571}, {6, 893}, {337, 240}, {737, 40}, {897, 960},
            {777, 520}, {577, 120}, {417, 200}};
        for (int[] d : due) {
            TrunkLitters x = Edges.told("60", "5/a/1/9 5/a/1/9", "brood 1;draw " + d[0] + ";");
            Edges.due("about(5) ahead", x.about(5), d[0]);
            Edges.due("year()", x.year(), 4);
            Edges.due("about(5) behind " + d[0], x.about(5), d[1]);
            Edges.due("the same by itself", (d[0] * 137 + 71) % 1000, d[1]);
        }
        TrunkLitters x = Edges.told("99", "5/a/1/9 5/a/1/9", "brood 1;draw 999;");
        int seed = 999;
        for (int year = 0; year < 6; year++) {
            x.year();
            seed = (seed * 137 + 71) % 1000;
            Edges.due("about(5) behind " + (year + 1), x.about(5), seed);
        }
    }

    private static void youngMarks() {
        Edges.sentence("each MARK k as the one of the COUPLE told first has it, if the SEED, cut by 2 k times, is odd, else as the "
            + "other one");
        for (int draw = 0; draw < 1000; draw += 37) {
            int seed = (draw * 137 + 71) % 1000;
            int marks = 0;
            int cut = seed;
            for (int k = 0; k < 6; k++) {
                marks += cut % 2 * (1 << k);
                cut /= 2;
            }
            TrunkLitters x = Edges.told("60", "6/a/63/9 5/a/0/9", "brood 1;draw " + draw + ";");
            x.year();
            Edges.due("trunk(2, 2): those of the first one, draw " + draw, x.trunk(2, 2), marks);
            x = Edges.told("60", "6/a/0/9 5/a/63/9", "brood 1;draw " + draw + ";");
            x.year();
            Edges.due("trunk(2, 2): those of the other one, draw " + draw, x.trunk(2, 2), 63 - marks);
            x = Edges.told("60", "5/a/0/9 6/a/63/9", "brood 1;draw " + draw + ";");
            x.year();
            Edges.due("trunk(2, 2): the greater one is told first, draw " + draw, x.trunk(2, 2), marks);
            x = Edges.told("60", "5/a/42/9 5/a/42/9", "brood 1;draw " + draw + ";");
            x.year();
            Edges.due("trunk(2, 2): both alike, draw " + draw, x.trunk(2, 2), 42);
        }
    }

    private static void youngElse() {
        Edges.sentence("the first of its PARENTS (told first as COUPLE; -1: none), 6: the other one");
        TrunkLitters x = Edges.told("60", "5/a/1/9 5/a/1/9", "brood 1;");
        x.year();
        Edges.due("trunk(2, 5): alike, the lesser number", x.trunk(2, 5), 0);
        Edges.due("trunk(2, 6)", x.trunk(2, 6), 1);
        x = Edges.told("60", "5/a/1/9 6/a/1/9", "brood 1;");
        x.year();
        Edges.due("trunk(2, 5): the greater one", x.trunk(2, 5), 1);
        Edges.due("trunk(2, 6)", x.trunk(2, 6), 0);
        // by what they are once they have grown: 19 and 20 are alike then
        x = Edges.told("60", "20/a/1/9 19/a/1/9", "brood 1;");
        x.year();
        Edges.due("trunk(2, 5): 20 and 20 by now", x.trunk(2, 5), 0);
        x = Edges.told("60", "19/a/1/9 20/a/1/9", "brood 1;");
        x.year();
        Edges.due("trunk(2, 5): 20 and 20 by now", x.trunk(2, 5), 0);
        Edges.due("trunk(2, 6)", x.trunk(2, 6), 1);
    }

    private static void roomByRoom() {
        Edges.sentence("Then, ROOM by ROOM, its COUPLE .. brings forth");
        String two = "5/b/63/9 5/b/0/9 5/a/63/9 5/a/0/9";
        TrunkLitters x = Edges.told("60 60", two, "brood 1;draw 3;");
        Edges.due("year(): who came, as bits", x.year(), 16 + 32);
        Edges.due("trunk(4, 1): the first ROOM first", x.trunk(4, 1), 0);
        Edges.due("trunk(5, 1)", x.trunk(5, 1), 1);
        int one = (3 * 137 + 71) % 1000;
        Edges.due("trunk(4, 2)", x.trunk(4, 2), one & 63);
        Edges.due("trunk(5, 2): the SEED goes on", x.trunk(5, 2), (one * 137 + 71) % 1000 & 63);
        // who came in the first ROOM is there for the next one
        Edges.due("many < 5", Edges.told("60 60", two, "brood many < 5;").year(), 16);
        Edges.due("many < 6", Edges.told("60 60", two, "brood many < 6;").year(), 16 + 32);
        // all four ROOMS in one YEAR, as far as there are places
        x = Edges.told("60 60 60 60", "5/a/1/9 5/a/1/9 5/c/1/9 5/c/1/9 5/d/1/9 5/d/1/9", "brood 1;");
        Edges.due("year(): two places for three", x.year(), 64 + 128);
        Edges.due("trunk(6, 1)", x.trunk(6, 1), 0);
        Edges.due("trunk(7, 1)", x.trunk(7, 1), 2);
        x = Edges.told("60", "5/a/1/9 5/a/1/9 5/a/1/9 5/a/1/9", "brood 1;");
        Edges.due("year(): one of a ROOM", x.year(), 16);
        x = Edges.told("60 60", "5/a/1/9 5/b/1/9", "brood 1;");
        Edges.due("year(): no COUPLE", x.year(), 0);
    }

    private static void yearsGoUp() {
        Edges.sentence("The year goes up by 1.");
        TrunkLitters x = new TrunkLitters();
        for (int year = 1; year <= 60; year++) {
            Edges.due("year() of nothing", x.year(), 0);
            Edges.due("about(4)", x.about(4), year);
        }
        Edges.due("about(6)", x.about(6), 40);
    }

    /** So many YEARS are more calls than are promised; what is beyond is held to all the same. */
    private static void lastYear() {
        Edges.sentence("NONE, doing nothing, behind 999 of them");
        TrunkLitters x = Edges.told("60", "1/a/1 1/a/1", "pines 9;tales 99;brood 0;");
        for (int year = 1; year <= 990; year++) {
            x.year();
        }
        x.image(0);
        for (int year = 991; year <= 999; year++) {
            Edges.due("year()", x.year(), 0);
            Edges.due("about(4)", x.about(4), year);
        }
        int acts = x.about(6);
        Edges.due("year() behind 999", x.year(), -1);
        Edges.due("about(4)", x.about(4), 999);
        Edges.due("about(6)", x.about(6), acts);
        Edges.due("undo()", x.undo(), true);
        Edges.due("about(4)", x.about(4), 998);
        Edges.due("year() once more", x.year(), 0);
        Edges.due("year() behind 999", x.year(), -1);
        x.undo();
        x.undo();
        Edges.due("year()", x.year(), 0);
        Edges.due("back(0)", x.back(0), 990);
        Edges.due("year()", x.year(), 0);
    }

    private static void carry() {
        Edges.sentence("It is carried: from which ROOM; NONE, doing nothing, if it is there, not so much is LEFT, or one can't be.");
        TrunkLitters x = Edges.told("20 8 7", "8/a/1 1/a/2", "");
        Edges.due("carry(0, 2): 7 LEFT for 8", x.carry(0, 2), -1);
        Edges.due("carry(0, 1): 8 LEFT for 8", x.carry(0, 1), 0);
        Edges.due("trunk(0, 1)", x.trunk(0, 1), 1);
        Edges.due("room(1, 1)", x.room(1, 1), 0);
        Edges.due("carry(0, 1): it is there", x.carry(0, 1), -1);
        Edges.due("carry(1, 1): none LEFT", x.carry(1, 1), -1);
        Edges.due("carry(0, 0)", x.carry(0, 0), 1);
        Edges.due("carry(1, 2)", x.carry(1, 2), 0);
        Edges.due("about(6)", x.about(6), 3);
        for (int room : new int[] {0, 2, 3, 4, -1, 8, 32, 33, Integer.MIN_VALUE, Integer.MAX_VALUE}) {
            Edges.nothing("carry(0, " + room + ")", YearEdgesTest::lived, o -> o.carry(0, room), -1);
        }
        for (int t : new int[] {3, 7, 8, -1, -8, 32, 33, Integer.MIN_VALUE, Integer.MAX_VALUE}) {
            Edges.nothing("carry(" + t + ", 1)", YearEdgesTest::lived, o -> o.carry(t, 1), -1);
        }
        TrunkLitters y = Edges.told("20 20", "8/a/1", "");
        Edges.never("carry(0, #)", r -> y.carry(0, r), -1, Edges.FAR);
        Edges.never("carry(#, 1)", t -> y.carry(t, 1), -1, Edges.FAR);
        Edges.due("carry(0, 1)", y.carry(0, 1), 0);
        TrunkLitters full = Edges.told("8 20", "8/a/1", "");
        Edges.due("carry(0, 0): it is there, none LEFT", full.carry(0, 0), -1);
    }

    /** Two ROOMS of use and one too small, with ACTS to undo and to redo, images, things HELD, and a TAPE. */
    private static void lived(TrunkLitters x) {
        Texts.house(x, Edges.text("60 60 2", "8/a/42/9 9/a/21/9", "tales 2;draw 7;brood bulk;"));
        x.later(3);
        x.held(0, 5, true);
        x.year();
        x.image(0);
        x.lose(2);
        x.later(2);
        x.held(0, 4, false);
        x.untell(0);
        x.carry(1, 1);
        x.tell(1);
        x.tell(1);
        x.undo();
        x.pack();
        Texts.feed(x, "pines 4;draw 5;");
    }

    private static void tell() {
        Edges.sentence("It is TOLD a tale: how many it has then; NONE, doing nothing, if there are no tales, it has 9, or there is "
            + "none such.");
        TrunkLitters x = Edges.told("20", "8/a/1/8 1/a/2", "tales 2;");
        Edges.due("tell(0)", x.tell(0), 9);
        Edges.due("about(3)", x.about(3), 1);
        Edges.due("tell(0): it has 9", x.tell(0), -1);
        Edges.due("about(3)", x.about(3), 1);
        Edges.due("tell(1)", x.tell(1), 1);
        Edges.due("trunk(1, 3)", x.trunk(1, 3), 1);
        Edges.due("about(3)", x.about(3), 0);
        Edges.due("tell(1): there are no tales", x.tell(1), -1);
        Edges.due("trunk(1, 3)", x.trunk(1, 3), 1);
        Edges.due("about(6)", x.about(6), 2);
        x.undo();
        Edges.due("about(3): it is there again", x.about(3), 1);
        Edges.due("trunk(1, 3)", x.trunk(1, 3), 0);
        Edges.due("tell(0) of none", Edges.told("20", "8/a/1", "").tell(0), -1);
        TrunkLitters many = Edges.told("20", "8/a/1", "tales 99;");
        for (int i = 1; i <= 9; i++) {
            Edges.due("tell(0)", many.tell(0), i);
        }
        Edges.due("tell(0) a tenth time", many.tell(0), -1);
        Edges.due("about(3)", many.about(3), 90);
        Edges.never("tell(#)", many::tell, -1, Edges.FAR);
        Edges.never("tell(#)", many::tell, -1, 1, 2, 3, 4, 5, 6, 7);
        for (int t : new int[] {3, 7, 8, -1, 32, Integer.MIN_VALUE, Integer.MAX_VALUE}) {
            Edges.nothing("tell(" + t + ")", YearEdgesTest::lived, o -> o.tell(t), -1);
        }
        Edges.nothing("tell(0): it has 9", o -> {
            Texts.house(o, Edges.text("20", "8/a/1/9", "tales 9;"));
            o.year();
            o.tell(0);
            o.image(1);
        }, o -> o.tell(0), -1);
        Edges.nothing("tell(0): no tales", o -> {
            Texts.house(o, Edges.text("20", "8/a/1/4", "tales 2;"));
            o.tell(0);
            o.tell(0);
            o.lose(0);
            o.undo();
        }, o -> o.tell(0), -1);
    }

    private static void lose() {
        Edges.sentence("It is thrown out: its BULK; NONE, doing nothing, if there is none such.");
        TrunkLitters x = Edges.told("40", "1/a/1 20/a/2", "");
        Edges.due("lose(0)", x.lose(0), 1);
        Edges.due("lose(0): gone", x.lose(0), -1);
        Edges.due("lose(1)", x.lose(1), 20);
        Edges.due("about(0)", x.about(0), 0);
        Edges.due("about(6)", x.about(6), 2);
        Edges.due("room(0, 1)", x.room(0, 1), 40);
        Edges.never("lose(#)", x::lose, -1, 0, 1, 2, 3, 4, 5, 6, 7);
        TrunkLitters y = Edges.told("40", "1/a/1 20/a/2", "");
        Edges.never("lose(#)", y::lose, -1, Edges.FAR);
        Edges.due("about(0)", y.about(0), 2);
        for (int t : new int[] {2, 7, 8, -1, 32, Integer.MIN_VALUE, Integer.MAX_VALUE}) {
            Edges.nothing("lose(" + t + ")", YearEdgesTest::lived, o -> o.lose(t), -1);
        }
        // all of it is gone: who comes there begins anew
        TrunkLitters z = Edges.told("60", "5/a/63/9 5/a/63/9 5/a/63", "brood 1;pines 9;tales 9;");
        z.year();
        z.tell(2);
        Edges.due("trunk(2, 4)", z.trunk(2, 4), 1);
        z.lose(2);
        z.lose(3);
        z.year();
        Edges.due("trunk(2, 3)", z.trunk(2, 3), 0);
        Edges.due("trunk(2, 4)", z.trunk(2, 4), 0);
        Edges.due("trunk(2, 0)", z.trunk(2, 0), 3);
    }

    private static void fortyActs() {
        Edges.sentence("40 at most are kept, the oldest go");
        for (int acts : new int[] {0, 1, 39, 40, 41, 42, 80, 81, 85}) {
            TrunkLitters x = Edges.told("1", "", "");
            for (int i = 0; i < acts; i++) {
                x.year();
            }
            int kept = Math.min(40, acts);
            Edges.due("about(6) behind " + acts, x.about(6), kept);
            Edges.due("about(7) behind " + acts, x.about(7), 0);
            for (int i = 1; i <= kept; i++) {
                Edges.due("undo() " + i, x.undo(), true);
                Edges.due("about(4)", x.about(4), acts - i);
            }
            Edges.due("undo() of what went", x.undo(), false);
            Edges.due("about(4)", x.about(4), acts - kept);
            Edges.due("about(7)", x.about(7), kept);
            for (int i = 1; i <= kept; i++) {
                Edges.due("redo() " + i, x.redo(), true);
                Edges.due("about(4)", x.about(4), acts - kept + i);
            }
            Edges.due("redo() of none", x.redo(), false);
        }
        // half of them undone, then others: 20 and 21 are 41
        TrunkLitters x = Edges.told("1 1", "1/a/1", "tales 0;pines 9;");
        for (int i = 0; i < 40; i++) {
            x.carry(0, 1 - i % 2);
        }
        for (int i = 0; i < 20; i++) {
            x.undo();
        }
        Edges.due("about(6)", x.about(6), 20);
        Edges.due("about(7)", x.about(7), 20);
        for (int i = 0; i < 20; i++) {
            x.carry(0, 1 - i % 2);
        }
        Edges.due("about(6)", x.about(6), 40);
        Edges.due("about(7)", x.about(7), 0);
        x.carry(0, 1);
        Edges.due("about(6)", x.about(6), 40);
        for (int i = 0; i < 40; i++) {
            Edges.due("undo()", x.undo(), true);
            Edges.due("trunk(0, 1)", x.trunk(0, 1), i % 2);
        }
        Edges.due("undo()", x.undo(), false);
    }

    private static void undo() {
        Edges.sentence("UNDO takes back the latest ACT that was not: true; false if there is none.");
        TrunkLitters x = Edges.told("60 60", "8/a/42/9 9/a/21/9", "tales 5;draw 7;brood bulk;");
        Edges.due("undo() of none", x.undo(), false);
        Edges.due("year()", x.year(), 4);
        x.tell(2);
        x.carry(2, 1);
        x.lose(1);
        Edges.trunk(x, 2, 4, 1, 52, 1, 0, -1, 0);
        Edges.due("undo() of lose", x.undo(), true);
        Edges.trunk(x, 1, 10, 0, 21, 8, 0, -1, -1);
        Edges.trunk(x, 2, 4, 1, 52, 1, 0, 1, 0);
        Edges.due("undo() of carry", x.undo(), true);
        Edges.trunk(x, 2, 4, 0, 52, 1, 0, 1, 0);
        Edges.due("undo() of tell", x.undo(), true);
        Edges.trunk(x, 2, 4, 0, 52, 0, 0, 1, 0);
        Edges.due("about(3)", x.about(3), 5);
        Edges.due("undo() of year", x.undo(), true);
        Edges.about(x, 2, 2, 3, 5, 0, 7, 0, 4);
        Edges.trunk(x, 0, 8, 0, 42, 9, 0, -1, -1);
        Edges.trunk(x, 1, 9, 0, 21, 9, 0, -1, -1);
        Edges.trunk(x, 2, -2);
        Edges.due("undo() of none", x.undo(), false);
        Edges.about(x, 2, 2, 3, 5, 0, 7, 0, 4);
        // each of both PARENTS is one again
        x.redo();
        for (int parent = 0; parent < 2; parent++) {
            x.lose(parent);
            Edges.due("trunk(2, " + (6 - parent) + ")", x.trunk(2, 6 - parent), -1);
            x.undo();
            Edges.trunk(x, 2, 4, 0, 52, 0, 0, 1, 0);
            x.redo();
            Edges.due("trunk(2, " + (6 - parent) + ") behind redo()", x.trunk(2, 6 - parent), -1);
            x.undo();
        }
        Edges.due("undo() of a new object", new TrunkLitters().undo(), false);
        // those alone are ACTS
        x.image(0);
        x.pack();
        x.later(1);
        x.held(0, 1, true);
        x.untell(0);
        Texts.feed(x, "pines");
        Edges.due("about(6): these are none", x.about(6), 1);
        Edges.due("about(7): nor do they end a REDO", x.about(7), 1);
    }

    private static void redo() {
        Edges.sentence("REDO does that again which was taken back last (till another ACT): true; false if there is none.");
        TrunkLitters x = Edges.told("60 60", "8/a/42/9 9/a/21/9", "tales 5;draw 7;brood bulk;");
        Edges.due("redo() of none", x.redo(), false);
        x.year();
        Edges.due("redo() of none that was taken back", x.redo(), false);
        x.tell(0);
        x.carry(0, 1);
        x.undo();
        x.undo();
        Edges.due("redo(): what was taken back last", x.redo(), true);
        Edges.due("trunk(0, 3)", x.trunk(0, 3), 9);
        Edges.due("trunk(0, 1)", x.trunk(0, 1), 0);
        Edges.due("about(3)", x.about(3), 4);
        Edges.due("redo()", x.redo(), true);
        Edges.due("trunk(0, 1)", x.trunk(0, 1), 1);
        Edges.due("redo()", x.redo(), false);
        // each ACT ends it
        for (int act = 0; act < 4; act++) {
            x = Edges.told("60 60", "8/a/42/5 9/a/21/5", "tales 5;draw 7;");
            x.year();
            x.year();
            x.undo();
            switch (act) {
                case 0 -> x.year();
                case 1 -> x.carry(0, 1);
                case 2 -> x.tell(0);
                default -> x.lose(0);
            }
            Edges.due("redo() behind ACT " + act, x.redo(), false);
            Edges.about(x, x.about(0), 2, x.about(2), x.about(3), x.about(4), x.about(5), 2, 0);
        }
        // a YEAR done again is the same one, by the same SEED
        x = Edges.told("60", "8/a/42/9 9/a/21/9", "draw 7;brood bulk;");
        x.year();
        x.year();
        int seed = x.about(5);
        int marks = x.trunk(3, 2);
        x.undo();
        x.undo();
        x.redo();
        x.redo();
        Edges.due("about(5)", x.about(5), seed);
        Edges.due("trunk(3, 2)", x.trunk(3, 2), marks);
    }

    private static void refusedActsAreNone() {
        Edges.sentence("NONE, doing nothing (so no ACT, and REDO stays)");
        TrunkLitters x = Edges.told("20 3", "8/a/1/9 8/a/1", "tales 1;");
        x.year();
        x.tell(1);
        x.undo();
        Edges.due("about(7)", x.about(7), 1);
        x.carry(0, 0);
        x.carry(0, 1);
        x.carry(0, 2);
        x.carry(5, 0);
        x.tell(7);
        x.lose(4);
        x.lose(-1);
        Edges.due("about(6)", x.about(6), 1);
        Edges.due("about(7)", x.about(7), 1);
        Edges.due("redo()", x.redo(), true);
        Edges.due("tell(0): no tales", x.tell(0), -1);
        Edges.due("undo()", x.undo(), true);
        Edges.due("about(3)", x.about(3), 1);
    }
}
