/** What each promise says, on small rooms whose answers were worked out by hand. */
public final class SoapDeedsPromises {
    private static final int NONE = -1;
    private static final int[] WILD = {Integer.MIN_VALUE, -1000, -2, 7, 64, 255, 256, 1000, Integer.MAX_VALUE};
    // big drifts to ann and bursts on her in SECOND 2; wee is LOST in 3, old in 6.
    private static final String FOUR = "room 4 by 4;lamp 2 1;door east at 0 1 blows 1 reach 2;door down at 3 0 blows 2 reach 3;open east;"
        + "heir ann at 3 1 tall 5;heir bob at 0 3 tall 2;bubble big at 0 1 film 9 size 3;bubble wee at 2 0 film 4 size 1;"
        + "bubble old at 3 2 film 7 size 2;thins 1+drift;bursts tall>4 and film<6;hue film+deeds;breath 50;";
    private static int wrong = 0;
    private static int promise = 0;

    public static void main(String[] args) {
        newObject();
        feedAndEnd();
        roomAndFault();
        hasAndParts();
        draughts();
        secondDriftJoin();
        secondThinBurst();
        secondRent();
        formulas();
        laterGoesOwner();
        doorsStand();
        shineLasts();
        odds();
        feelFrom();
        tells();
        chanceAndSeed();
        swingTiptoeCarry();
        undo();
        kept();
        images();
        imagesRefused();
        lastSecond();
        wildArguments();
        System.out.println(wrong == 0 ? "all promises are as due" : wrong + " answers are not as due");
        if (wrong != 0) {
            System.exit(1);
        }
    }

    private static void due(String what, int got, int want) {
        if (got != want) {
            wrong++;
            System.out.println("promise " + promise + ": " + what + " is " + got + ", due is " + want);
        }
    }

    private static void due(String what, boolean got, boolean want) {
        due(what, got ? 1 : 0, want ? 1 : 0);
    }

    private static void feedBytes(SoapDeeds x, int... bytes) {
        for (int at = 0; at < bytes.length; at += 20) {
            int[] v = new int[5];
            for (int k = 0; k < 20; k++) {
                v[k / 4] = v[k / 4] << 8 | (at + k < bytes.length ? bytes[at + k] & 255 : 0);
            }
            x.feed(v[0], v[1], v[2], v[3], v[4]);
        }
        x.end(bytes.length);
    }

    private static int roomOf(SoapDeeds x, String text) {
        int[] bytes = new int[text.length()];
        for (int k = 0; k < bytes.length; k++) {
            bytes[k] = text.charAt(k);
        }
        feedBytes(x, bytes);
        return x.room();
    }

    private static SoapDeeds in(String text) {
        SoapDeeds x = new SoapDeeds();
        if (roomOf(x, text) == NONE) {
            wrong++;
            System.out.println("fault " + x.fault(0) + " at " + x.fault(1) + ": " + text);
        }
        return x;
    }

    private static void newObject() {
        promise = 1;
        SoapDeeds x = new SoapDeeds();
        for (int k = 0; k < 12; k++) {
            due("has(" + k + ") at first", x.has(k), 0);
        }
        due("the seed at first", x.has(12), 1);
        for (int k = 0; k < 6; k++) {
            due("status(" + k + ") at first", x.status(k), 0);
        }
        due("octet(0) ahead of any image", x.octet(0), NONE);
        due("fault(0) ahead of any", x.fault(0), 0);
        due("fault(1) ahead of any", x.fault(1), NONE);
        due("chance without a room", x.chance(1), NONE);
        due("on without a room", x.on(), false);
        due("the seed stays without a room", x.has(12), 1);
        due("an image without a room", x.image(), 5);
        int[] bytes = {0, 0, 255, 255, 159};
        for (int k = 0; k < 5; k++) {
            due("octet(" + k + ") without a room", x.octet(k), bytes[k]);
        }
        feedBytes(x, bytes);
        due("that image without a room", x.on(), false);
        due("status(5)", x.status(5), 2);
        due("NONE", SoapDeeds.NONE, -1);
    }

    private static void feedAndEnd() {
        promise = 2;
        SoapDeeds x = new SoapDeeds();
        for (int k = 1; k <= 80; k++) {
            due("feed " + k, x.feed(k, 0, 0, 0, 0), 20 * k);
        }
        due("feed 81", x.feed(0, 0, 0, 0, 0), NONE);
        due("refused", x.status(0), 1);
        promise = 3;
        due("end(1601)", x.end(1601), false);
        due("end(-1)", x.end(-1), false);
        due("refused", x.status(0), 3);
        due("end(1600)", x.end(1600), true);
        due("feed beyond", x.feed(0, 0, 0, 0, 0), NONE);
        due("end(1580)", x.end(1580), true);
        due("feed up to 1600", x.feed(0, 0, 0, 0, 0), 1600);
        due("end(7)", x.end(7), true);
        due("end(8)", x.end(8), false);
        due("feed behind 7", x.feed(0, 0, 0, 0, 0), 27);
        due("end(0)", x.end(0), true);
        // The highest byte comes first: "room" "3 by" " 3; ".
        promise = 2;
        due("feed", x.feed(0x726f6f6d, 0x20332062, 0x7920333b, 0x20202020, 0x0a0a2020), 20);
        due("room()", x.room(), 1);
        due("feed of bytes above 127", x.feed(-1, -1, -1, -1, -1), 20);
        due("room()", x.room(), NONE);
        due("its place", x.fault(1), 0);
        due("status(1)", x.status(1), 1);
        // Bytes behind the end count no more: "room 3 by 3" of "room 3 by 34".
        promise = 3;
        x.feed(0x726f6f6d, 0x20332062, 0x79203334, 0, 0);
        x.end(11);
        due("room()", x.room(), NONE);
        due("its fault", x.fault(0), 1);
        due("its place", x.fault(1), 11);
        x.feed(0x726f6f6d, 0x20332062, 0x7920333b, 0x6c616d70, 0);
        x.end(15);
        due("lam of lamp", x.room(), NONE);
        due("its place", x.fault(1), 12);
    }

    private static void roomAndFault() {
        promise = 4;
        SoapDeeds x = in(FOUR);
        x.seed(99);
        x.seconds(3);
        x.swing(1, 1);
        feedBytes(x, 1, 2, 3, 3);
        due("feel()", x.feel(), 1);
        due("a new room()", roomOf(x, FOUR), 14);
        due("SECOND", x.has(5), 0);
        due("KEPT", x.has(9), 0);
        due("kept(0, 0)", x.kept(0, 0), NONE);
        due("FELT", x.has(10), 0);
        due("ACTS", x.has(11), 0);
        due("undo()", x.undo(), false);
        due("the seed stays", x.has(12), 99);
        due("door 1", x.door(1, 4), 0);
        due("film", x.bubble(0, 2), 9);
        due("from", x.from(0, NONE), 16);
        due("a smaller room()", roomOf(x, "room 3 by 3;"), 1);
        for (int k = 2; k < 12; k++) {
            due("has(" + k + ")", x.has(k), 0);
        }
        due("lamp", x.lamp(0), NONE);
        promise = 5;
        due("fault(0)", x.fault(0), 0);
        due("fault(1)", x.fault(1), NONE);
        due("a wrong room()", roomOf(x, "room 3 by 4"), NONE);
        due("fault(0)", x.fault(0), 1);
        due("fault(1)", x.fault(1), 11);
        due("fault(2)", x.fault(2), NONE);
        due("fault(-1)", x.fault(-1), NONE);
        due("rows", x.has(1), 3);
    }

    private static void hasAndParts() {
        promise = 6;
        SoapDeeds x = in(FOUR);
        int[] first = {4, 4, 2, 2, 3, 0, 3, 0, 0, 0, 0, 0, 1};
        for (int k = 0; k < first.length; k++) {
            due("has(" + k + ")", x.has(k), first[k]);
        }
        due("has(13)", x.has(13), NONE);
        due("has(-1)", x.has(-1), NONE);
        x.seconds(4);
        int[] then = {4, 4, 2, 2, 3, 4, 1, 1, 1, 2, 0, 1, 1};
        for (int k = 0; k < then.length; k++) {
            due("has(" + k + ") behind 4", x.has(k), then[k]);
        }
        promise = 7;
        String[][] names = {{"east", "down"}, {"ann", "bob"}, {"big", "wee", "old"}};
        for (int kind = 0; kind < 3; kind++) {
            for (int which = 0; which < names[kind].length; which++) {
                String name = names[kind][which];
                for (int k = 0; k < 6; k++) {
                    due("letter " + k + " of " + name, x.letter(kind, which, k), k < name.length() ? name.charAt(k) - 96 : 0);
                }
                due("letter -1", x.letter(kind, which, -1), NONE);
                due("letter 6", x.letter(kind, which, 6), NONE);
            }
            due("letter of none such", x.letter(kind, names[kind].length, 0), NONE);
            due("letter of -1", x.letter(kind, -1, 0), NONE);
        }
        due("letter of kind 3", x.letter(3, 0, 0), NONE);
        due("letter of kind -1", x.letter(-1, 0, 0), NONE);
        SoapDeeds y = in("room 3 by 3;heir zyxwvu at 0 0 tall 1;");
        due("sixth letter", y.letter(1, 0, 5), 21);
        promise = 8;
        due("lamp(0)", x.lamp(0), 2);
        due("lamp(1)", x.lamp(1), 1);
        due("lamp(2)", x.lamp(2), NONE);
        due("lamp(-1)", x.lamp(-1), NONE);
        due("no lamp", y.lamp(0), NONE);
        promise = 9;
        int[][] doors = {{0, 1, 1, 2, 1}, {3, 0, 2, 3, 0}};
        parts(2, 5, doors, (which, what) -> x.door(which, what));
        promise = 10;
        int[][] heirs = {{3, 1, 5, 1, 6}, {0, 3, 2, 0, 0}};
        parts(2, 5, heirs, (which, what) -> x.heir(which, what));
        promise = 11;
        int[][] bubbles = {{NONE, NONE, 0, 0, 0}, {NONE, NONE, 0, 0, 0}, {3, 2, 3, 2, 4}};
        parts(3, 5, bubbles, (which, what) -> x.bubble(which, what));
        promise = 12;
        int[][] deeds = {{0, NONE, 6}, {NONE, NONE, 0}, {NONE, 2, 0}};
        parts(3, 3, deeds, (which, what) -> x.deed(which, what));
    }

    private interface Asked {
        int answer(int which, int what);
    }

    private static void parts(int many, int whats, int[][] want, Asked asked) {
        for (int which = -1; which <= many; which++) {
            for (int what = -1; what <= whats; what++) {
                boolean there = which >= 0 && which < many && what >= 0 && what < whats;
                due("part " + what + " of " + which, asked.answer(which, what), there ? want[which][what] : NONE);
            }
        }
    }

    private static void draughts() {
        promise = 13;
        // up and right cross at 2 2: the first OPEN one by numbers counts there.
        SoapDeeds x = in("room 5 by 5;door up at 2 4 blows 0 reach 2;door right at 1 2 blows 1 reach 6;door left at 4 0 blows 3 reach 1;"
            + "door down at 0 0 blows 2 reach 6;open right;open up;open left;");
        int[][] want = {
            {NONE, NONE, NONE, 3, 3},
            {NONE, NONE, NONE, NONE, NONE},
            {NONE, 1, 0, 1, 1},
            {NONE, NONE, 0, NONE, NONE},
            {NONE, NONE, 0, NONE, NONE}};
        for (int row = -1; row <= 5; row++) {
            for (int column = -1; column <= 5; column++) {
                boolean there = row >= 0 && row < 5 && column >= 0 && column < 5;
                due("draught(" + column + ", " + row + ")", x.draught(column, row), there ? want[row][column] : NONE);
            }
        }
        x.swing(0, 0);
        due("draught(2, 2) with up shut", x.draught(2, 2), 1);
        due("draught(2, 3) with up shut", x.draught(2, 3), NONE);
        x.swing(3, 1);
        due("draught(0, 4) with down open", x.draught(0, 4), 2);
    }

    private static void secondDriftJoin() {
        promise = 25;
        SoapDeeds x = in("room 5 by 3;door a at 0 0 blows 1 reach 1;door b at 4 0 blows 3 reach 1;open a;open b;"
            + "bubble p at 4 0 film 9 size 5;bubble q at 0 0 film 20 size 6;bubble r at 2 2 film 30 size 1;");
        due("seconds(1)", x.seconds(1), 0);
        due("p's column", x.bubble(0, 0), 3);
        due("q's column", x.bubble(1, 0), 1);
        due("r's column", x.bubble(2, 0), 2);
        due("seconds(1)", x.seconds(1), 0);
        int[] p = {2, 0, 18, 9, 3};
        int[] q = {NONE, NONE, 0, 0, 0};
        for (int what = 0; what < 5; what++) {
            due("p joined, " + what, x.bubble(0, what), p[what]);
            due("q gone, " + what, x.bubble(1, what), q[what]);
        }
        due("deed 1 is in p", x.deed(1, 1), 0);
        due("nothing is KEPT of a join", x.has(9), 0);
        due("none is LOST by a join", x.has(8), 0);
        // All drift at once: two that change places do not join; one at the wall stays.
        x = in("room 3 by 3;door a at 0 0 blows 1 reach 1;door b at 1 0 blows 3 reach 1;door c at 0 2 blows 3 reach 1;"
            + "open b;open c;bubble p at 1 0 film 9 size 1;bubble q at 0 0 film 9 size 1;bubble r at 0 2 film 9 size 1;");
        x.swing(0, 1);
        x.seconds(1);
        due("p at 2 0", x.bubble(0, 0), 2);
        due("q at 1 0", x.bubble(1, 0), 1);
        due("r at the wall", x.bubble(2, 0), 0);
        due("all float", x.has(6), 3);
        x.seconds(1);
        due("p stays, q comes: joined", x.bubble(0, 4), 3);
        // Three at once: sizes together.
        x = in("room 3 by 3;door a at 0 1 blows 1 reach 1;door b at 2 2 blows 0 reach 1;open a;open b;"
            + "bubble p at 2 2 film 5 size 1;bubble q at 2 1 film 7 size 2;bubble r at 1 1 film 6 size 3;");
        x.seconds(1);
        due("p at 2 1", x.bubble(0, 1), 1);
        due("r at 2 1 is in p", x.bubble(2, 0), NONE);
        due("q is at 2 0", x.bubble(1, 1), 0);
        due("p's size", x.bubble(0, 3), 4);
        due("p's film", x.bubble(0, 2), 5);
        x.seconds(1);
        due("all in p", x.bubble(0, 4), 7);
        due("p's size", x.bubble(0, 3), 6);
        due("p's film", x.bubble(0, 2), 5);
        due("seconds(0)", x.seconds(0), NONE);
        due("seconds(41)", x.seconds(41), NONE);
        due("seconds(-1)", x.seconds(-1), NONE);
        due("refused", x.status(2), 3);
        due("one ACT each", x.has(11), 2);
        due("seconds(40)", x.seconds(40), 1);
        due("SECOND", x.has(5), 42);
    }

    private static void secondThinBurst() {
        promise = 25;
        SoapDeeds x = in(FOUR);
        due("three SECONDS", x.seconds(3), 1);
        due("ann owns deed 0", x.deed(0, 0), 0);
        due("its RENT", x.deed(0, 2), 6);
        due("wee's film", x.bubble(1, 2), 1);
        due("one more", x.seconds(1), 1);
        due("deed 1 is LOST", x.has(8), 1);
        due("three more", x.seconds(3), 1);
        due("none floats", x.has(6), 0);
        due("LOST", x.has(8), 2);
        due("more SECONDS", x.seconds(40), 0);
        due("SECOND", x.has(5), 47);
        // A film that grows is 99 at most; one that thins by more than it has is 0.
        x = in("room 3 by 3;bubble p at 0 0 film 90 size 1;thins 0-8;");
        x.seconds(1);
        due("film 98", x.bubble(0, 2), 98);
        x.seconds(1);
        due("film 99", x.bubble(0, 2), 99);
        x = in("room 3 by 3;heir h at 0 0 tall 0;bubble p at 0 0 film 90 size 1;thins 9999*9999;");
        due("burst", x.seconds(1), 1);
        due("owned", x.deed(0, 0), 0);
        // Without bursts a film of 1 bursts, without an heir it is LOST.
        x = in("room 3 by 3;heir h at 0 0 tall 9;bubble p at 0 1 film 1 size 1;bubble q at 2 2 film 2 size 1;");
        due("burst", x.seconds(1), 1);
        due("LOST", x.has(8), 1);
        due("q", x.bubble(1, 2), 1);
        // All DEEDS of a joined one go to one HEIR.
        x = in("room 3 by 3;door a at 0 0 blows 1 reach 1;open a;heir h at 1 0 tall 9;bubble p at 0 0 film 9 size 1;"
            + "bubble q at 1 0 film 9 size 1;bursts second=1;");
        x.seconds(1);
        due("both drift, none joins", x.has(6), 2);
        x = in("room 3 by 3;door a at 0 0 blows 1 reach 1;door b at 2 0 blows 3 reach 1;open b;open a;heir h at 1 0 tall 9;"
            + "bubble p at 2 0 film 9 size 1;bubble q at 0 0 film 9 size 1;bursts tall=9 and size=2;");
        due("burst", x.seconds(1), 1);
        due("h owns", x.heir(0, 3), 2);
        due("KEPT how many", x.kept(0, 3), 2);
        due("KEPT whom", x.kept(0, 1), 0);
    }

    private static void secondRent() {
        promise = 25;
        // Without hue a tenth of the film that is left; all DEEDS of one that is joined.
        SoapDeeds x = in("room 3 by 3;lamp 0 0;bubble p at 0 0 film 41 size 1;bubble q at 1 0 film 99 size 1;");
        x.seconds(1);
        due("rent 4", x.deed(0, 2), 4);
        x.seconds(1);
        due("rent 3 more", x.deed(0, 2), 7);
        due("none off the lamp", x.deed(1, 2), 0);
        x = in("room 3 by 3;lamp 1 0;door a at 0 0 blows 1 reach 1;door b at 2 0 blows 3 reach 1;open b;open a;"
            + "bubble p at 2 0 film 9 size 1;bubble q at 0 0 film 12 size 1;hue deeds*2;");
        x.seconds(1);
        due("p", x.deed(0, 2), 4);
        due("q", x.deed(1, 2), 4);
        // 0 .. 9, and 999 at most.
        x = in("room 3 by 3;lamp 0 0;bubble p at 0 0 film 9 size 1;thins 0;hue 5000;");
        x.seconds(40);
        due("40 times 9", x.deed(0, 2), 360);
        x.seconds(40);
        x.seconds(30);
        due("110 times 9", x.deed(0, 2), 990);
        x.seconds(2);
        due("999 at most", x.deed(0, 2), 999);
        x = in("room 3 by 3;lamp 0 0;bubble p at 0 0 film 9 size 1;hue 0-1;");
        x.seconds(2);
        due("below is 0", x.deed(0, 2), 0);
        // One that bursts under the lamp brings none.
        x = in("room 3 by 3;lamp 0 0;heir h at 0 0 tall 1;bubble p at 0 0 film 9 size 1;bursts all;hue 5;");
        x.seconds(1);
        due("no rent of a burst", x.deed(0, 2), 0);
        due("rent of the heir", x.heir(0, 4), 0);
    }

    /** Through hue, 0 .. 9: what a SUM gives. */
    private static void sum(String sum, int want) {
        SoapDeeds x = in("room 3 by 3;lamp 0 0;bubble p at 0 0 film 51 size 3;hue " + sum + ";");
        x.seconds(1);
        due("hue " + sum, x.deed(0, 2), want);
    }

    /** Whether a TEST holds, for a film of 50 now, a size of 3, in SECOND 0, under one who is 7 tall. */
    private static void test(String test, boolean want) {
        SoapDeeds x = in("room 3 by 3;heir h at 0 0 tall 7;bubble p at 0 0 film 51 size 3;bursts " + test + ";");
        due("bursts " + test, x.seconds(1), want ? 1 : 0);
    }

    private static void formulas() {
        promise = 25;
        sum("1+2*3", 7);
        sum("9-3-2", 4);
        sum("8/2/2", 2);
        sum("20%7*2", 9);
        sum("7/2", 3);
        sum("(0-7)/2+9", 5);
        sum("(0-7)%2+3", 4);
        sum("7/(0-2)+9", 5);
        sum("7%(0-2)+5", 4);
        sum("(0-7)%(0-2)+5", 4);
        sum("7/0+3", 3);
        sum("7%0+3", 3);
        sum("9999*9999/(500*500)", 4);
        sum("9999*9999%(999*1000+999)+1", 2);
        sum("(0-9999*9999)/(500*500)+7", 3);
        sum("999*1000+999+9999-(999*1000+994)", 6);
        sum("9999*9999+5-(999*1000+999)", 1);
        sum("(0-9999*9999-5)+1000*999+1003", 3);
        sum("min(3,4)+max(3,4)", 7);
        sum("if(all,3,4)", 3);
        sum("if(not all,3,4)", 4);
        sum("if(1>2 or 2>1,if(1=1 and 2=3,1,2),9)", 2);
        sum("film/10", 5);
        sum("film%10", 0);
        sum("size", 3);
        sum("second+1", 1);
        sum("deeds+1", 2);
        sum("2*(1+(2-1))", 4);
        test("film=50", true);
        test("film<50", false);
        test("film>49", true);
        test("size=3 and tall=7", true);
        test("second=0", true);
        test("tall<7 or tall>7", false);
        // and binds more than or, not more than and.
        test("all or all and not all", true);
        test("[all or all] and not all", false);
        test("not all and not all or all", true);
        test("not [all and not all]", true);
        test("not not all", true);
        test("not 1=2 and 1=2", false);
        SoapDeeds x = in("room 3 by 3;door a at 0 0 blows 1 reach 1;open a;bubble p at 0 0 film 50 size 1;thins 1+10*drift+second;");
        x.seconds(1);
        due("drifted in SECOND 0", x.bubble(0, 2), 39);
        x.seconds(1);
        due("drifted in SECOND 1", x.bubble(0, 2), 27);
        x.seconds(1);
        due("stayed in SECOND 2", x.bubble(0, 2), 24);
        // film in thins is what it was, behind the join.
        x = in("room 3 by 3;bubble p at 0 0 film 50 size 4;thins film/size;");
        x.seconds(1);
        due("film/size", x.bubble(0, 2), 38);
        // Who came into another's CELL drifted; the one of the least number counts.
        x = in("room 3 by 3;door a at 0 0 blows 1 reach 6;open a;bubble p at 1 0 film 50 size 1;bubble q at 2 0 film 40 size 1;thins 1+drift;");
        x.seconds(1);
        due("p drifted into q", x.bubble(0, 2), 48);
        x = in("room 3 by 3;door a at 0 0 blows 1 reach 6;open a;bubble q at 2 0 film 40 size 1;bubble p at 1 0 film 50 size 1;thins 1+drift;");
        x.seconds(1);
        due("q stayed, p drifted into it", x.bubble(0, 2), 49);
        // No HEIR there: tall is 0.
        x = in("room 3 by 3;heir h at 1 0 tall 7;bubble p at 0 0 film 50 size 1;bursts tall=0;");
        due("tall 0 without", x.seconds(1), 1);
    }

    private static void laterGoesOwner() {
        promise = 14;
        SoapDeeds x = in(FOUR);
        int[][] big = {{0, 1, 9}, {1, 1, 7}, {2, 1, 5}, {NONE, NONE, 0}, {NONE, NONE, 0}};
        for (int n = 0; n < big.length; n++) {
            for (int what = 0; what < 3; what++) {
                due("later(0, " + n + ", " + what + ")", x.later(0, n, what), big[n][what]);
            }
            due("later(0, n, 3)", x.later(0, n, 3), NONE);
            due("later(0, n, -1)", x.later(0, n, -1), NONE);
        }
        due("later(2, 6, 2)", x.later(2, 6, 2), 1);
        due("later(2, 40, 2)", x.later(2, 40, 2), 0);
        due("later(2, 41, 2)", x.later(2, 41, 2), NONE);
        due("later(2, -1, 2)", x.later(2, -1, 2), NONE);
        due("later(3, 0, 2)", x.later(3, 0, 2), NONE);
        due("later(-1, 0, 2)", x.later(-1, 0, 2), NONE);
        due("nothing goes by", x.has(5), 0);
        due("no KEPT ahead", x.has(9), 0);
        promise = 15;
        due("goes(0)", x.goes(0), 2);
        due("goes(1)", x.goes(1), 3);
        due("goes(2)", x.goes(2), 6);
        due("goes(3)", x.goes(3), NONE);
        due("goes(-1)", x.goes(-1), NONE);
        promise = 16;
        due("owner(0, 0)", x.owner(0, 0), NONE);
        due("owner(0, 2)", x.owner(0, 2), NONE);
        due("owner(0, 3)", x.owner(0, 3), 0);
        due("owner(0, 40)", x.owner(0, 40), 0);
        due("owner(0, 41)", x.owner(0, 41), NONE);
        due("owner(0, -1)", x.owner(0, -1), NONE);
        due("owner(2, 40)", x.owner(2, 40), NONE);
        due("owner(3, 3)", x.owner(3, 3), NONE);
        x.seconds(3);
        due("owner(0, 0) then", x.owner(0, 0), 0);
        promise = 15;
        due("goes(0) when GONE", x.goes(0), NONE);
        promise = 14;
        due("later of one GONE", x.later(0, 0, 0), NONE);
        due("its film", x.later(0, 0, 2), 0);
        promise = 15;
        x = in("room 3 by 3;bubble p at 0 0 film 40 size 1;bubble q at 1 0 film 41 size 1;bubble r at 1 1 film 1 size 1;");
        due("in the 40th", x.goes(0), 39);
        due("in the 41st", x.goes(1), NONE);
        due("in the next", x.goes(2), 0);
        x = in("room 3 by 3;door a at 0 0 blows 1 reach 6;open a;bubble p at 2 0 film 50 size 1;bubble q at 0 0 film 50 size 1;");
        due("GONE by a join", x.goes(1), 1);
        // AHEAD there are no DRAWS.
        promise = 14;
        x = in("room 3 by 3;bubble p at 1 1 film 50 size 1;breath 100;");
        due("no breath ahead", x.later(0, 9, 0), 1);
        due("the seed stays", x.has(12), 1);
        x.seconds(5);
        due("no breath in seconds()", x.bubble(0, 0), 1);
        due("the seed stays", x.has(12), 1);
    }

    private static void doorsStand() {
        promise = 17;
        String text = "room 3 by 3;door a at 0 0 blows 1 reach 2;door b at 0 0 blows 2 reach 2;door c at 0 0 blows 1 reach 2;"
            + "heir h at 2 0 tall 1;heir k at 0 2 tall 1;heir l at 2 2 tall 1;bubble p at 0 0 film 3 size 1;";
        SoapDeeds x = in(text);
        due("h by a", x.doors(0, 0, 3), 1);
        due("k by b", x.doors(0, 1, 3), 2);
        due("l by none", x.doors(0, 2, 3), NONE);
        due("too soon", x.doors(0, 0, 2), NONE);
        due("n 0", x.doors(0, 0, 0), NONE);
        due("n 20", x.doors(0, 0, 20), 1);
        due("n 21", x.doors(0, 0, 21), NONE);
        due("n -1", x.doors(0, 0, -1), NONE);
        due("no such deed", x.doors(1, 0, 3), NONE);
        due("no such heir", x.doors(0, 3, 3), NONE);
        due("nobody is no heir", x.doors(0, -1, 3), NONE);
        x.swing(0, 1);
        due("h as it is", x.doors(0, 0, 3), 0);
        due("k: a shut, b open", x.doors(0, 1, 3), 3);
        x.swing(2, 1);
        due("h still", x.doors(0, 0, 3), 0);
        due("k: a shut, b open, which is ahead of c", x.doors(0, 1, 3), 3);
        due("nothing is changed", x.door(0, 4), 1);
        x.seconds(3);
        due("owned already, n 0", x.doors(0, 0, 0), 0);
        due("owned by another", x.doors(0, 1, 20), NONE);
        // c leads p south to h; so do a and b, round by the open d: one DOOR (bits 4) is fewer than two (bits 3).
        x = in("room 4 by 4;door a at 0 0 blows 1 reach 1;door b at 2 0 blows 2 reach 1;door c at 0 0 blows 2 reach 1;"
            + "door d at 2 2 blows 3 reach 1;open d;heir h at 0 2 tall 1;bubble p at 0 0 film 7 size 1;");
        due("c alone", x.doors(0, 0, 7), 4);
        x.swing(0, 1);
        due("b then, not a with c", x.doors(0, 0, 7), 2);

        promise = 18;
        x = in(FOUR);
        // Behind 3 SECONDS big is to burst on ann (tall 5) where its film is below 6: at 2 1 in SECOND 1,
        // 2 0 first: wee with film 3 there in SECOND 0.
        int[][] want = {{2, 0, 1}, {0, 0, 0}};
        for (int what = 0; what < 3; what++) {
            due("stand(0, 3, " + what + ")", x.stand(0, 3, what), want[0][what]);
            due("stand(1, 3, " + what + ")", x.stand(1, 3, what), want[1][what]);
        }
        due("stand(0, 3, 3)", x.stand(0, 3, 3), NONE);
        due("stand(0, 3, -1)", x.stand(0, 3, -1), NONE);
        due("stand(0, 0, 0)", x.stand(0, 0, 0), NONE);
        due("stand(0, 20, 0)", x.stand(0, 20, 0), 2);
        due("stand(0, 21, 0)", x.stand(0, 21, 0), NONE);
        due("stand(2, 1, 0)", x.stand(2, 1, 0), NONE);
        due("stand(-1, 1, 0)", x.stand(-1, 1, 0), NONE);
        // What he owns already counts; a CELL with another HEIR is none to stand in.
        x = in("room 3 by 3;heir h at 0 0 tall 1;heir k at 1 0 tall 1;bubble p at 0 0 film 1 size 1;bubble q at 1 0 film 2 size 1;"
            + "bubble r at 2 2 film 2 size 1;");
        x.seconds(1);
        due("h owns p", x.heir(0, 3), 1);
        due("h's column", x.stand(0, 1, 0), 2);
        due("h's row", x.stand(0, 1, 1), 2);
        due("h's DEEDS", x.stand(0, 1, 2), 2);
        due("k's own CELL", x.stand(1, 1, 0), 1);
        due("k's row", x.stand(1, 1, 1), 0);
        due("k's DEEDS", x.stand(1, 1, 2), 1);
        due("nobody moved", x.heir(0, 0), 0);
    }

    private static void shineLasts() {
        promise = 19;
        SoapDeeds x = in(FOUR);
        int[] want = {3, 2, 13};
        for (int what = 0; what < 3; what++) {
            due("shine(2, " + what + ")", x.shine(2, what), want[what]);
        }
        due("shine(2, 3)", x.shine(2, 3), NONE);
        due("shine(2, -1)", x.shine(2, -1), NONE);
        due("shine(0, 0)", x.shine(0, 0), NONE);
        due("shine(21, 0)", x.shine(21, 0), NONE);
        due("shine(20, 0)", x.shine(20, 0), 3);
        due("the lamp stays", x.lamp(0), 2);
        due("without a room", new SoapDeeds().shine(1, 2), NONE);
        x = in("room 3 by 4;");
        due("without any bubble: column", x.shine(1, 0), 0);
        due("row", x.shine(1, 1), 0);
        due("rent", x.shine(1, 2), 0);
        // RENT that is there already counts, of LOST DEEDS too.
        x = in("room 3 by 3;lamp 1 1;bubble p at 1 1 film 2 size 1;bubble q at 2 1 film 9 size 1;hue 4;");
        x.seconds(2);
        due("p is LOST with its rent", x.deed(0, 2), 4);
        due("q's CELL", x.shine(3, 0), 2);
        due("all then", x.shine(3, 2), 16);
        promise = 20;
        x = in(FOUR);
        due("lasts(0, 3)", x.lasts(0, 3), 12);
        due("lasts(1, 5)", x.lasts(1, 5), 6);
        due("lasts(1, 1)", x.lasts(1, 1), 2);
        due("lasts(1, 20)", x.lasts(1, 20), 21);
        due("lasts(1, 0)", x.lasts(1, 0), NONE);
        due("lasts(1, 21)", x.lasts(1, 21), NONE);
        due("lasts(3, 1)", x.lasts(3, 1), NONE);
        due("lasts(-1, 1)", x.lasts(-1, 1), NONE);
        due("the film stays", x.bubble(0, 2), 9);
        x.seconds(3);
        due("of one GONE", x.lasts(0, 1), NONE);
        x = in("room 3 by 3;bubble p at 0 0 film 5 size 1;bubble q at 1 0 film 5 size 1;thins if(film>9,9,0);bursts film>3 and film<90;");
        due("least film", x.lasts(0, 1), 1);
        x = in("room 3 by 3;bubble p at 0 0 film 5 size 1;thins 5;");
        due("99 lasts 19", x.lasts(0, 19), 96);
        due("none lasts 20", x.lasts(0, 20), NONE);
    }

    private static void odds() {
        promise = 21;
        // In the corner two WAYS of four are blocked.
        SoapDeeds x = in("room 3 by 3;heir h at 0 0 tall 1;heir k at 1 0 tall 1;heir l at 0 1 tall 1;heir m at 2 2 tall 1;"
            + "bubble p at 0 0 film 9 size 1;bursts all;breath 30;");
        due("stays", x.odds(0, 0), 340);
        due("east", x.odds(0, 1), 30);
        due("south", x.odds(0, 2), 30);
        due("never", x.odds(0, 3), 0);
        due("no such deed", x.odds(1, 0), NONE);
        due("no such heir", x.odds(0, 4), NONE);
        due("-1", x.odds(-1, -1), NONE);
        due("nobody is no heir", x.odds(0, -1), NONE);
        due("the seed stays", x.has(12), 1);
        x.seconds(1);
        due("owned", x.odds(0, 0), 400);
        due("owned by another", x.odds(0, 1), 0);
        // A breath blows only where there is no DRAUGHT.
        x = in("room 3 by 3;door d at 0 0 blows 1 reach 1;open d;heir k at 1 0 tall 1;bubble p at 0 0 film 1 size 1;breath 99;");
        due("by the door", x.odds(0, 0), 400);
        x = in("room 3 by 3;heir k at 1 0 tall 1;bubble p at 0 0 film 1 size 1;");
        due("no breath", x.odds(0, 0), 0);
    }

    private static void feelFrom() {
        promise = 22;
        SoapDeeds x = in(FOUR);
        due("an empty tape", x.feel(), NONE);
        int[][] bad = {{0, 0, 0}, {0, 0, 0, 0, 0}, {31, 0, 0, 0}, {0, 3, 0, 0}, {0, 0, 4, 0}, {0, 0, 0, 4}, {0, 0, 255, 0}, {0, 0, 0, 255},
            {0, 0, 254, 254}, {0, 0, 0, 0, 0, 255, 0, 0}, new int[68]};
        for (int k = 0; k < bad.length; k++) {
            feedBytes(x, bad[k]);
            due("bad rows " + k, x.feel(), NONE);
            due("the tape is gone", x.end(1), false);
        }
        due("refused", x.status(5), 12);
        due("none FELT", x.has(10), 0);
        feedBytes(x, new int[64]);
        due("16 rows", x.feel(), 16);
        due("FELT", x.has(10), 16);
        feedBytes(x, 30, 2, 255, 255);
        due("one row", x.feel(), 1);
        feedBytes(x, 9);
        due("a bad one", x.feel(), NONE);
        due("FELT stays", x.has(10), 1);
        promise = 23;
        due("GONE behind 30, wherever old is", x.from(2, NONE), 16);
        feedBytes(x, 1, 0, 2, 1);
        x.feel();
        // big is at 2 1 behind one SECOND only from 1 1: at 2 1 it would drift on to 3 1.
        due("how many", x.from(0, NONE), 1);
        due("which", x.from(0, 0), 9);
        due("no second one", x.from(0, 1), NONE);
        due("from(0, -2)", x.from(0, -2), NONE);
        // It is 2 1 for big wherever wee is? Never: big is at 1 1 then.
        due("of another", x.from(1, NONE), 0);
        due("none such", x.from(3, NONE), NONE);
        due("none such", x.from(-1, NONE), NONE);
        feedBytes(x, 0, 0, 3, 3);
        x.feel();
        due("n 0", x.from(0, 0), 27);
        due("n 0", x.from(0, NONE), 1);
        x.seconds(3);
        due("GONE", x.from(0, NONE), NONE);

        // In another's CELL it is joined to none at once, but in the SECOND that comes.
        x = in("room 3 by 3;bubble p at 0 0 film 9 size 1;bubble q at 2 2 film 9 size 1;");
        feedBytes(x, 0, 1, 0, 0);
        x.feel();
        due("q can be with p", x.from(1, NONE), 1);
        feedBytes(x, 1, 1, 255, 255);
        x.feel();
        due("q is GONE into p", x.from(1, NONE), 1);
        due("there", x.from(1, 0), 0);
        due("p in q's CELL makes q GONE", x.from(0, 0), 18);
        feedBytes(x, 1, 1, 2, 2, 0, 0, 0, 1);
        x.feel();
        due("two rows", x.from(0, NONE), 1);
        due("two rows", x.from(0, 0), 8);
        due("two rows, q", x.from(1, NONE), 0);
        // Row by row; FELT is by SECONDS from now on, and stays with acts, undo, on.
        x = in("room 3 by 4;bubble p at 0 0 film 9 size 1;");
        due("all CELLS", x.from(0, NONE), 12);
        for (int k = 0; k < 12; k++) {
            due("from(0, " + k + ")", x.from(0, k), 8 * (k / 3) + k % 3);
        }
        feedBytes(x, 1, 0, 2, 3);
        x.feel();
        x.seconds(1);
        due("FELT stays", x.has(10), 1);
        due("from now on", x.from(0, 0), 26);
        x.undo();
        due("FELT stays with undo", x.has(10), 1);
        int n = x.image();
        int[] image = new int[n];
        for (int k = 0; k < n; k++) {
            image[k] = x.octet(k);
        }
        feedBytes(x, image);
        due("on()", x.on(), true);
        due("FELT stays with on", x.has(10), 1);
        due("a room() with a FAULT", roomOf(x, "room"), NONE);
        due("FELT stays with a FAULT", x.has(10), 1);
        roomOf(x, "room 3 by 3;bubble p at 0 0 film 9 size 1;");
        due("a new room", x.from(0, NONE), 9);
    }

    private static void tells() {
        promise = 24;
        SoapDeeds x = in(FOUR);
        due("tells(0, 0)", x.tells(0, 0), 1);
        due("tells(0, 1)", x.tells(0, 1), 2);
        due("tells(0, 2)", x.tells(0, 2), NONE);
        due("tells(0, -1)", x.tells(0, -1), NONE);
        due("tells(3, 0)", x.tells(3, 0), NONE);
        feedBytes(x, 0, 1, 3, 3);
        x.feel();
        due("without any left", x.tells(0, 0), NONE);
        due("one left: how many", x.tells(1, 1), 1);
        due("one left: when", x.tells(1, 0), 1);
        x.seconds(4);
        due("GONE", x.tells(0, 0), NONE);
        // Nothing blows: each CELL tells itself in the first SECOND, but film 1 is GONE everywhere.
        x = in("room 3 by 3;bubble p at 0 0 film 9 size 1;bubble q at 2 2 film 1 size 1;");
        due("p when", x.tells(0, 0), 1);
        due("p how many", x.tells(0, 1), 1);
        due("q when", x.tells(1, 0), 1);
        due("q how many", x.tells(1, 1), 9);
        // q over heirs bursts in SECOND 1, elsewhere it stays: two SECONDS tell no less than one.
        x = in("room 3 by 3;door a at 0 0 blows 1 reach 6;door b at 0 1 blows 1 reach 6;open a;open b;bubble p at 0 0 film 9 size 1;"
            + "bursts second=0 and film=8;");
        due("all burst", x.tells(0, 1), 9);
        x = in("room 3 by 3;heir h at 0 0 tall 1;heir k at 1 0 tall 1;bubble p at 0 0 film 9 size 1;bursts tall=1 and second=0;");
        due("two GONE at once", x.tells(0, 1), 2);
        // With a DRAUGHT each way at first the later SECONDS are worse, so the first is told.
        x = in("room 3 by 3;door a at 0 0 blows 1 reach 6;open a;bubble p at 0 0 film 9 size 1;");
        due("when", x.tells(0, 0), 1);
        due("at most", x.tells(0, 1), 2);
        feedBytes(x, 2, 0, 2, 0);
        x.feel();
        due("left are 3", x.from(0, NONE), 3);
        due("told best in one", x.tells(0, 0), 1);
        due("2 0 of two", x.tells(0, 1), 2);
        // Two that look alike for two SECONDS, and part by bursts in the third.
        x = in("room 3 by 3;door a at 0 0 blows 1 reach 6;open a;heir h at 0 0 tall 1;bubble p at 0 0 film 9 size 1;"
            + "thins if(drift=1,3,0);bursts second=3 and film<4;");
        feedBytes(x, 2, 0, 2, 0, 0, 0, 0, 0);
        x.feel();
        due("one left", x.from(0, NONE), 1);
        feedBytes(x, 2, 0, 2, 0);
        x.feel();
        due("in SECOND 3 from 0 0 GONE, from 1 0 and 2 0 not", x.tells(0, 1), 2);
        due("first of like", x.tells(0, 0), 1);
    }

    private static void chanceAndSeed() {
        promise = 26;
        String text = "room 3 by 3;bubble p at 1 1 film 90 size 1;breath ";
        SoapDeeds x = in(text + "100;");
        // DRAWS from 1: 18 of 100, 3 of 4; 26, 0; 16, 2; 68, 0.
        due("chance(1)", x.chance(1), 1);
        due("west", x.bubble(0, 0), 0);
        due("row", x.bubble(0, 1), 1);
        due("seed", x.has(12), 377401575);
        due("chance(1)", x.chance(1), 1);
        due("north", x.bubble(0, 1), 0);
        due("seed", x.has(12), 1147902781);
        due("chance(2)", x.chance(2), 2);
        due("south, north", x.bubble(0, 1), 0);
        due("seed", x.has(12), 486256185);
        due("SECOND", x.has(5), 4);
        due("ACTS", x.has(11), 3);
        x = in(text + "50;");
        due("18, 26, 16 and 41 are below 50", x.chance(6), 4);
        due("seed", x.has(12), 267834847);
        due("one ACT", x.has(11), 1);
        x = in(text + "18;");
        due("18 is not below 18", x.chance(1), 0);
        due("one DRAW", x.has(12), 1103527590);
        due("it stays", x.bubble(0, 0), 1);
        x = in("room 3 by 3;bubble p at 1 1 film 90 size 1;");
        due("without breath", x.chance(2), 0);
        due("DRAWS all the same", x.has(12), 377401575);
        due("chance(0)", x.chance(0), NONE);
        due("chance(41)", x.chance(41), NONE);
        due("refused", x.status(2), 2);
        due("no DRAW", x.has(12), 377401575);
        due("chance(40)", x.chance(40), 0);
        // A breath is the DRAUGHT only where there is none.
        x = in("room 3 by 3;door a at 1 1 blows 1 reach 1;open a;bubble p at 1 1 film 90 size 1;bubble q at 1 2 film 90 size 1;breath 100;");
        x.chance(1);
        due("p by the door", x.bubble(0, 0), 2);
        due("q by the breath", x.bubble(1, 0), 0);
        promise = 31;
        due("seed(0)", x.seed(0), true);
        due("it", x.has(12), 0);
        due("seed(-1)", x.seed(-1), false);
        due("it stays", x.has(12), 0);
        due("refused", x.status(5), 1);
        due("seed(max)", x.seed(Integer.MAX_VALUE), true);
        due("it", x.has(12), Integer.MAX_VALUE);
        x.seed(1);
        x.chance(1);
        due("the same DRAWS again", x.has(12), 377401575);
        SoapDeeds y = new SoapDeeds();
        due("seed without a room", y.seed(5), true);
        roomOf(y, text + "1;");
        due("the seed stays with room()", y.has(12), 5);
        x.seed(Integer.MAX_VALUE);
        x.chance(1);
        long once = (1103515245L * Integer.MAX_VALUE + 12345L) % (1L << 31);
        long twice = (1103515245L * once + 12345L) % (1L << 31);
        due("wrapped", x.has(12), (int) twice);
    }

    private static void swingTiptoeCarry() {
        promise = 27;
        SoapDeeds x = in(FOUR);
        due("open already", x.swing(0, 1), false);
        due("shut already", x.swing(1, 0), false);
        due("none such", x.swing(2, 1), false);
        due("none such", x.swing(-1, 1), false);
        due("on 2", x.swing(1, 2), false);
        due("on -1", x.swing(0, -1), false);
        due("refused", x.status(3), 6);
        due("no ACT", x.has(11), 0);
        due("opened", x.swing(1, 1), true);
        due("it", x.door(1, 4), 1);
        due("shut", x.swing(0, 0), true);
        due("it", x.door(0, 4), 0);
        due("ACTS", x.has(11), 2);
        promise = 28;
        int refused = x.status(3);
        due("beyond the wall", x.tiptoe(0, 1), false);
        due("beyond the wall", x.tiptoe(1, 2), false);
        due("beyond the wall", x.tiptoe(1, 3), false);
        due("way 4", x.tiptoe(0, 4), false);
        due("way -1", x.tiptoe(0, -1), false);
        due("none such", x.tiptoe(2, 0), false);
        due("none such", x.tiptoe(-1, 0), false);
        due("refused", x.status(3), refused + 7);
        due("north", x.tiptoe(0, 0), true);
        due("row", x.heir(0, 1), 0);
        due("beyond the wall", x.tiptoe(0, 0), false);
        due("west", x.tiptoe(0, 3), true);
        due("south", x.tiptoe(0, 2), true);
        due("east", x.tiptoe(0, 1), true);
        due("column", x.heir(0, 0), 3);
        due("row", x.heir(0, 1), 1);
        SoapDeeds y = in("room 3 by 3;heir h at 0 0 tall 1;heir k at 1 0 tall 1;bubble b at 0 1 film 1 size 1;");
        due("a HEIR is in it", y.tiptoe(0, 1), false);
        due("a BUBBLE is no wall", y.tiptoe(0, 2), true);
        due("then k can go", y.tiptoe(1, 3), true);
        due("k's column", y.heir(1, 0), 0);
        y.seconds(1);
        due("h owns", y.heir(0, 3), 1);
        promise = 29;
        refused = x.status(3);
        due("it is there", x.carry(2, 1), false);
        due("no such CELL", x.carry(4, 0), false);
        due("no such CELL", x.carry(0, 4), false);
        due("no such CELL", x.carry(-1, 0), false);
        due("refused", x.status(3), refused + 4);
        due("carried", x.carry(1, 2), true);
        due("column", x.lamp(0), 1);
        due("row", x.lamp(1), 2);
        due("a first lamp", y.carry(0, 0), true);
        due("column", y.lamp(0), 0);
        y.undo();
        due("none again", y.lamp(0), NONE);
    }

    private static void undo() {
        promise = 30;
        SoapDeeds x = in(FOUR);
        due("nothing to undo", x.undo(), false);
        due("refused", x.status(4), 1);
        x.seconds(4);
        x.swing(0, 0);
        x.tiptoe(0, 0);
        x.carry(0, 0);
        x.chance(3);
        int seed = x.has(12);
        due("ACTS", x.has(11), 5);
        due("undo chance", x.undo(), true);
        due("SECOND", x.has(5), 4);
        due("the seed is not undone", x.has(12), seed);
        due("undo carry", x.undo(), true);
        due("lamp", x.lamp(0), 2);
        due("undo tiptoe", x.undo(), true);
        due("row", x.heir(0, 1), 1);
        due("undo swing", x.undo(), true);
        due("open", x.door(0, 4), 1);
        due("KEPT", x.has(9), 2);
        due("undo seconds", x.undo(), true);
        due("KEPT", x.has(9), 0);
        due("SECOND", x.has(5), 0);
        due("float", x.has(6), 3);
        due("owned", x.has(7), 0);
        due("rent", x.deed(0, 2), 0);
        due("film", x.bubble(0, 2), 9);
        due("column", x.bubble(0, 0), 0);
        due("no more", x.undo(), false);
        due("refused", x.status(4), 2);
        // The last 20 alone.
        for (int k = 0; k < 25; k++) {
            due("act " + k, x.seconds(1) != NONE, true);
            due("ACTS", x.has(11), Math.min(20, k + 1));
        }
        for (int k = 0; k < 20; k++) {
            due("undo " + k, x.undo(), true);
            due("SECOND", x.has(5), 24 - k);
        }
        due("the 21st", x.undo(), false);
        due("SECOND", x.has(5), 5);
        x.swing(1, 1);
        due("one again", x.has(11), 1);
        due("undone", x.undo(), true);
        due("SECOND", x.has(5), 5);
    }

    private static void kept() {
        promise = 32;
        SoapDeeds x = in(FOUR);
        x.seconds(9);
        int[][] want = {{2, 0, 0, 1}, {3, 1, NONE, 1}, {6, 2, NONE, 1}};
        parts(3, 4, want, (which, what) -> x.kept(which, what));
        SoapDeeds y = in("room 3 by 3;heir h at 1 1 tall 1;bubble p at 2 2 film 5 size 1;bubble q at 1 1 film 5 size 1;bubble r at 0 0 film 2 size 1;");
        y.seconds(5);
        int[][] then = {{1, 2, NONE, 1}, {4, 0, NONE, 1}, {4, 1, 0, 1}};
        parts(3, 4, then, (which, what) -> y.kept(which, what));
        y.undo();
        due("none behind undo", y.kept(0, 0), NONE);
    }

    private static int[] bytesOf(SoapDeeds x) {
        int[] bytes = new int[x.image()];
        for (int k = 0; k < bytes.length; k++) {
            bytes[k] = x.octet(k);
        }
        return bytes;
    }

    private static void check(int[] bytes) {
        int c = 197;
        for (int k = 0; k < bytes.length - 1; k++) {
            c = (5 * c + (bytes[k] & 255)) % 251;
        }
        bytes[bytes.length - 1] = c;
    }

    private static void images() {
        promise = 33;
        SoapDeeds x = in(FOUR);
        x.seconds(4);
        int[] want = {0, 4, 2, 1, 1, 0, 3, 1, 0, 3, 255, 255, 0, 0, 0, 255, 255, 0, 0, 0, 3, 2, 3, 2, 4, 0, 0, 6, 255, 0, 0, 255, 0, 0, 0};
        check(want);
        due("image()", x.image(), want.length);
        promise = 34;
        for (int k = 0; k < want.length; k++) {
            due("octet(" + k + ")", x.octet(k), want[k]);
        }
        due("octet(-1)", x.octet(-1), NONE);
        due("octet behind it", x.octet(want.length), NONE);
        x.seconds(1);
        due("the latest image stays", x.octet(1), 4);
        promise = 35;
        SoapDeeds y = in(FOUR);
        y.seconds(7);
        y.swing(1, 1);
        y.seed(7);
        feedBytes(y, want);
        due("on()", y.on(), true);
        due("SECOND", y.has(5), 4);
        due("KEPT", y.has(9), 0);
        due("ACTS", y.has(11), 0);
        due("the seed stays", y.has(12), 7);
        due("float", y.has(6), 1);
        due("owned", y.has(7), 1);
        due("LOST", y.has(8), 1);
        due("rent of ann", y.heir(0, 4), 6);
        due("door 1", y.door(1, 4), 0);
        int[] again = bytesOf(y);
        for (int k = 0; k < want.length; k++) {
            due("again octet(" + k + ")", again[k], want[k]);
        }
        due("it goes on", y.goes(2), 2);
        due("burst", y.seconds(3), 1);
        due("KEPT from then on", y.kept(0, 0), 6);
        // The largest numbers: SECOND 999, RENTS 999.
        SoapDeeds z = in("room 3 by 3;lamp 0 0;bubble p at 0 0 film 9 size 1;thins 0;hue 9;");
        for (int k = 0; k < 25; k++) {
            z.seconds(k < 24 ? 40 : 39);
        }
        int[] last = {3, 231, 0, 0, 0, 0, 9, 1, 1, 255, 3, 231, 0};
        check(last);
        int[] got = bytesOf(z);
        due("length", got.length, last.length);
        for (int k = 0; k < last.length; k++) {
            due("last octet(" + k + ")", got[k], last[k]);
        }
        // Six of each: 71 bytes.
        StringBuilder text = new StringBuilder("room 7 by 7;");
        for (int k = 0; k < 6; k++) {
            char c = (char) ('a' + k);
            text.append("door d" + c + " at 0 0 blows 0 reach 1;heir h" + c + " at " + k + " 0 tall 1;bubble b" + c + " at " + k + " 6 film 9 size 1;");
        }
        SoapDeeds six = in(text.toString());
        due("six of each", six.image(), 71);
        int[] all = bytesOf(six);
        feedBytes(six, all);
        due("six of each on()", six.on(), true);
    }

    private static void refusedImage(SoapDeeds x, String why, int[] good, int at, int... bytes) {
        int[] bad = good.clone();
        for (int k = 0; k < bytes.length; k++) {
            bad[at + k] = bytes[k];
        }
        check(bad);
        int refused = x.status(5);
        feedBytes(x, bad);
        due("on() with " + why, x.on(), false);
        due("refused with " + why, x.status(5), refused + 1);
        due("the tape is gone with " + why, x.end(1), false);
        due("SECOND stays with " + why, x.has(5), 4);
        due("ACTS stay with " + why, x.has(11), 1);
    }

    private static void takenImage(String what, int[] good, int at, int... bytes) {
        SoapDeeds x = in(FOUR);
        int[] other = good.clone();
        for (int k = 0; k < bytes.length; k++) {
            other[at + k] = bytes[k];
        }
        check(other);
        feedBytes(x, other);
        due("on() with " + what, x.on(), true);
        int[] got = bytesOf(x);
        for (int k = 0; k < other.length; k++) {
            due(what + ", octet " + k, got[k], other[k]);
        }
    }

    private static void imagesRefused() {
        promise = 35;
        SoapDeeds x = in(FOUR);
        x.seconds(4);
        int[] good = bytesOf(x);
        // 0 SECOND, 2 lamp, 4 doors, 6 heirs, 10 15 20 bubbles, 25 28 31 deeds.
        refusedImage(x, "SECOND 1000", good, 0, 3, 232);
        refusedImage(x, "a lamp outside", good, 2, 4, 0);
        refusedImage(x, "a lamp outside", good, 2, 0, 4);
        refusedImage(x, "half a lamp", good, 2, 255, 0);
        refusedImage(x, "half a lamp", good, 2, 0, 255);
        refusedImage(x, "a flag of 2", good, 4, 2);
        refusedImage(x, "a heir outside", good, 6, 4);
        refusedImage(x, "a heir that is none", good, 6, 255, 255);
        refusedImage(x, "two heirs in one", good, 6, 0, 3);
        refusedImage(x, "half a bubble", good, 20, 255);
        refusedImage(x, "a bubble outside", good, 20, 0, 4);
        refusedImage(x, "film 0", good, 22, 0);
        refusedImage(x, "film 100", good, 22, 100);
        refusedImage(x, "size 0", good, 23, 0);
        refusedImage(x, "size 10", good, 23, 10);
        refusedImage(x, "no deed in it", good, 24, 0);
        refusedImage(x, "a deed that is none", good, 24, 12);
        refusedImage(x, "a film of one gone", good, 12, 1);
        refusedImage(x, "a size of one gone", good, 13, 1);
        refusedImage(x, "a deed of one gone", good, 14, 2);
        refusedImage(x, "two bubbles in one", good, 15, 3, 2, 1, 1, 2);
        int[] lost = good.clone();
        lost[25] = 255;
        refusedImage(x, "two bubbles in one, the first of them", lost, 10, 3, 2, 1, 1, 1);
        takenImage("the first bubble back", lost, 10, 3, 3, 1, 1, 1);
        refusedImage(x, "a deed in two", good, 15, 0, 0, 1, 1, 4);
        refusedImage(x, "a heir that is none owns", good, 28, 2);
        refusedImage(x, "an owner of one in a bubble", good, 31, 0);
        refusedImage(x, "RENT 1000", good, 29, 3, 232);
        int[] bad = good.clone();
        bad[bad.length - 1] ^= 1;
        feedBytes(x, bad);
        due("a wrong last byte", x.on(), false);
        feedBytes(x, java.util.Arrays.copyOf(good, good.length - 1));
        due("too short", x.on(), false);
        feedBytes(x, java.util.Arrays.copyOf(good, good.length + 1));
        due("too long", x.on(), false);
        due("an empty tape", x.on(), false);
        takenImage("SECOND 999", good, 0, 3, 231);
        takenImage("no lamp", good, 2, 255, 255);
        takenImage("all doors open", good, 4, 1, 1);
        takenImage("heirs elsewhere", good, 6, 0, 0, 3, 3);
        takenImage("film 99, size 9", good, 22, 99, 9, 4);
        takenImage("two deeds in one", good, 24, 6);
        takenImage("a bubble back", good, 15, 0, 0, 1, 1, 2);
        takenImage("deed 1 owned by bob, RENT 999", good, 28, 1, 3, 231);
        takenImage("deed 0 LOST", good, 25, 255);
        takenImage("old has the deed of wee, which is another's", good, 15, 1, 1, 5, 5, 4, 3, 2, 3, 2, 2);
    }

    private static void lastSecond() {
        SoapDeeds x = in(FOUR);
        int[] image = bytesOf(x);
        image[0] = 3;
        image[1] = 229;
        check(image);
        feedBytes(x, image);
        promise = 35;
        due("SECOND 997", x.on(), true);
        promise = 14;
        due("two come", x.later(0, 2, 2), 5);
        due("three do not", x.later(0, 3, 2), NONE);
        promise = 15;
        due("GONE in the third, which does not come", x.goes(0), NONE);
        promise = 16;
        due("owner(0, 3)", x.owner(0, 3), NONE);
        promise = 17;
        due("doors(0, 0, 3)", x.doors(0, 0, 3), NONE);
        promise = 18;
        due("stand(0, 2, 0)", x.stand(0, 2, 0), 2);
        due("stand(0, 3, 0)", x.stand(0, 3, 0), NONE);
        promise = 19;
        due("shine(2, 2)", x.shine(2, 2), 13);
        due("shine(3, 2)", x.shine(3, 2), NONE);
        promise = 20;
        due("lasts(1, 2)", x.lasts(1, 2), 3);
        due("lasts(1, 3)", x.lasts(1, 3), NONE);
        promise = 22;
        feedBytes(x, 2, 0, 2, 1);
        due("feel", x.feel(), 1);
        promise = 23;
        due("from now", x.from(0, 0), 8);
        feedBytes(x, 3, 1, 2, 0);
        due("feel beyond 999", x.feel(), 1);
        due("SECONDS beyond 999 are by none", x.from(1, NONE), 0);
        promise = 24;
        due("none left", x.tells(1, 0), NONE);
        promise = 25;
        due("seconds(3)", x.seconds(3), NONE);
        promise = 26;
        due("chance(3)", x.chance(3), NONE);
        due("refused", x.status(2), 2);
        due("no DRAW", x.has(12), 1);
        due("chance(1)", x.chance(1), 1);
        due("seconds(1)", x.seconds(1) != NONE, true);
        due("SECOND", x.has(5), 999);
        promise = 21;
        due("odds beyond 999", x.odds(0, 0), NONE);
        promise = 14;
        due("later(2, 0, 0)", x.later(2, 0, 0) != NONE, true);
        due("later(2, 1, 0)", x.later(2, 1, 0), NONE);
        promise = 24;
        feedBytes(x, 0, 2, 3, 2);
        x.feel();
        due("no SECOND comes", x.tells(2, 0), NONE);
        promise = 23;
        due("from at 999", x.from(2, NONE), 1);
        promise = 25;
        due("seconds(1) at 999", x.seconds(1), NONE);
        promise = 30;
        due("undo", x.undo(), true);
        due("SECOND", x.has(5), 998);
        promise = 21;
        due("odds at 998", x.odds(0, 0) != NONE, true);
    }

    private static void wildArguments() {
        for (SoapDeeds x : new SoapDeeds[] {new SoapDeeds(), in(FOUR)}) {
            for (int w : WILD) {
                promise = 7;
                due("letter", x.letter(w, 0, 0), NONE);
                due("letter", x.letter(0, w, 0), NONE);
                due("letter", x.letter(0, 0, w), NONE);
                promise = 9;
                due("door", x.door(w, 0), NONE);
                due("door", x.door(0, w), NONE);
                promise = 10;
                due("heir", x.heir(w, 0), NONE);
                due("heir", x.heir(0, w), NONE);
                promise = 11;
                due("bubble", x.bubble(w, 0), NONE);
                due("bubble", x.bubble(0, w), NONE);
                promise = 12;
                due("deed", x.deed(w, 0), NONE);
                due("deed", x.deed(0, w), NONE);
                promise = 13;
                due("draught", x.draught(w, 1), NONE);
                due("draught", x.draught(0, w), NONE);
                promise = 14;
                due("later", x.later(w, 0, 0), NONE);
                due("later", x.later(0, 0, w), NONE);
                promise = 17;
                due("doors", x.doors(w, 0, 3), NONE);
                due("doors", x.doors(0, w, 3), NONE);
                promise = 20;
                due("lasts", x.lasts(w, 1), NONE);
                promise = 21;
                due("odds", x.odds(w, 0), NONE);
                due("odds", x.odds(0, w), NONE);
                promise = 23;
                due("from", x.from(w, NONE), NONE);
                due("from", x.from(0, w), w == 7 && x.has(0) > 0 ? 11 : NONE);
                promise = 24;
                due("tells", x.tells(0, w), NONE);
                promise = 27;
                due("swing", x.swing(w, 1), false);
                due("swing", x.swing(0, w), false);
                promise = 28;
                due("tiptoe", x.tiptoe(w, 0), false);
                due("tiptoe", x.tiptoe(0, w), false);
                promise = 29;
                due("carry", x.carry(w, 0), false);
                due("carry", x.carry(0, w), false);
                promise = 32;
                due("kept", x.kept(w, 0), NONE);
                promise = 36;
                due("status", x.status(w), NONE);
            }
            due("refused", x.status(3), 6 * WILD.length);
            due("status(-1)", x.status(-1), NONE);
            due("status(6)", x.status(6), NONE);
            for (int k = 0; k < 6; k++) {
                due("status(" + k + ")", x.status(k), k == 3 ? 6 * WILD.length : 0);
            }
        }
    }
}
