/** Promises 25 to 32 and 36: acts, undone ones, the seed, what was kept, and refusals. */
final class EdgesOfActs {
    private static final int NONE = Sheet.NONE;
    private static final String ROOM = "room 3 by 4;lamp 1 1;door d at 0 0 blows 1 reach 1;door e at 2 3 blows 0 reach 1;open e;heir h at 0 0 tall 1;heir k at 2 3 tall 1;"
        + "bubble p at 0 0 film 3 size 1;bubble q at 0 2 film 2 size 1;bubble r at 1 3 film 99 size 1;breath 50;";
    private final Sheet sheet;

    EdgesOfActs(Sheet sheet) {
        this.sheet = sheet;
    }

    void run() {
        seconds();
        secondsRefused();
        chance();
        chanceRefused();
        swing();
        tiptoe();
        carry();
        undo();
        undoRefused();
        seed();
        kept();
        status();
    }

    private void seconds() {
        sheet.promise(25);
        sheet.says("n SECONDS go by (1 .. 40), without DRAWS: how many BURST;");
        int[] burst = {0, 0, 1, 2, 2};
        for (int n = 1; n <= 4; n++) {
            SoapDeeds x = sheet.in(ROOM);
            sheet.due(n + " SECONDS", x.seconds(n), burst[n]);
            sheet.due("SECOND", x.has(5), n);
            sheet.due("film of r", x.bubble(2, 2), 99 - n);
            sheet.due("no DRAW", x.has(12), 1);
        }
        for (int n : new int[] {38, 39, 40}) {
            SoapDeeds x = sheet.in("room 3 by 3;bubble p at 0 0 film 39 size 1;bubble q at 1 0 film 40 size 1;bubble r at 2 0 film 41 size 1;breath 100;");
            sheet.due(n + " SECONDS", x.seconds(n), n - 38);
            sheet.due("SECOND", x.has(5), n);
            sheet.due("no breath", x.bubble(2, 0), 2);
        }
        // A join is no burst; all six can burst at once.
        SoapDeeds joined = sheet.in("room 3 by 3;door d at 0 0 blows 1 reach 1;open d;bubble p at 1 0 film 9 size 1;bubble q at 2 0 film 9 size 1;");
        sheet.due("one that is joined", joined.seconds(1), 0);
        SoapDeeds six = sheet.in("room 3 by 3;bubble a at 0 0 film 1 size 1;bubble b at 1 0 film 1 size 1;bubble c at 2 0 film 1 size 1;bubble d at 0 1 film 1 size 1;"
            + "bubble e at 1 1 film 1 size 1;bubble f at 2 1 film 1 size 1;");
        sheet.due("all six", six.seconds(1), 6);
        sheet.due("none is left", six.seconds(40), 0);
        sheet.due("without any BUBBLE", sheet.in("room 3 by 3;").seconds(40), 0);
    }

    private interface Going {
        int go(SoapDeeds x, int n);
    }

    /** n can be 1 .. 40, up to SECOND 999; else nothing changes but the count of refusals. */
    private void cannotGo(Going going) {
        for (int second : new int[] {0, 958, 959, 960, 961, 997, 998, 999}) {
            for (int n : new int[] {Integer.MIN_VALUE, -1000, -1, 0, 1, 2, 38, 39, 40, 41, 42, 1000, Integer.MAX_VALUE - 998, Integer.MAX_VALUE}) {
                SoapDeeds x = sheet.inAt(second, "room 3 by 3;bubble p at 0 0 film 99 size 1;");
                x.swing(0, 1);
                String state = Sheet.state(x);
                boolean can = n >= 1 && n <= 40 && second + n <= 999;
                sheet.due(n + " from " + second, going.go(x, n), can ? 0 : NONE);
                sheet.due("SECOND", x.has(5), can ? second + n : second);
                sheet.due("refused", Sheet.refusals(x), can ? "0 0 0 1 0 0" : "0 0 1 1 0 0");
                sheet.due("an ACT", x.has(11), can ? 1 : 0);
                if (!can) {
                    sheet.due("all stays", Sheet.state(x), state);
                }
            }
        }
        SoapDeeds none = new SoapDeeds();
        sheet.due("without a room", going.go(none, 1), NONE);
        sheet.due("without a room", going.go(none, 40), NONE);
        sheet.due("refused", Sheet.refusals(none), "0 0 2 0 0 0");
        sheet.due("SECOND", none.has(5), 0);
        sheet.due("ACTS", none.has(11), 0);
    }

    private void secondsRefused() {
        sheet.promise(25);
        sheet.says("NONE, refused (2), when it can't be (beyond SECOND 999, without a room).");
        cannotGo(SoapDeeds::seconds);
    }

    private void chance() {
        sheet.promise(26);
        sheet.says("n SECONDS by the seed (1 .. 40), one ACT: how many breaths;");
        for (int n : new int[] {1, 2, 39, 40}) {
            SoapDeeds all = sheet.in("room 3 by 3;bubble p at 1 1 film 99 size 1;breath 100;");
            sheet.due(n + " SECONDS, all breathe", all.chance(n), n);
            sheet.due("SECOND", all.has(5), n);
            sheet.due("one ACT", all.has(11), 1);
            sheet.due("undone", all.undo(), true);
            sheet.due("SECOND", all.has(5), 0);
            SoapDeeds none = sheet.in("room 3 by 3;bubble p at 1 1 film 99 size 1;");
            sheet.due(n + " SECONDS, none breathes", none.chance(n), 0);
            sheet.due("film", none.bubble(0, 2), 99 - n);
        }
        // n at once are as n one by one, but for the ACTS.
        SoapDeeds once = sheet.in(ROOM);
        SoapDeeds each = sheet.in(ROOM);
        int breaths = 0;
        for (int k = 0; k < 15; k++) {
            breaths += each.chance(1);
        }
        sheet.due("fifteen", once.chance(15), breaths);
        sheet.due("the state", Sheet.state(once), Sheet.state(each).replace("acts 15", "acts 1"));
    }

    private void chanceRefused() {
        sheet.promise(26);
        sheet.says("NONE, refused (2), when it can't be.");
        cannotGo(SoapDeeds::chance);
    }

    private void swing() {
        sheet.promise(27);
        sheet.says("A DOOR is opened (on 1), or shut (0): true; false, refused (3), when it is so already, there is none such, or for others.");
        SoapDeeds x = sheet.in(ROOM);
        String state = Sheet.state(x);
        int refused = 0;
        int[][] bad = {{0, 0}, {1, 1}, {2, 0}, {2, 1}, {-1, 0}, {-1, 1}, {0, 2}, {1, 2}, {0, -1}, {1, -1}, {6, 1}, {31, 1}, {32, 1}, {33, 0}};
        for (int[] each : bad) {
            sheet.due("swing(" + each[0] + ", " + each[1] + ")", x.swing(each[0], each[1]), false);
            refused++;
        }
        for (int wild : Sheet.WILD) {
            sheet.due("swing(" + wild + ", 1)", x.swing(wild, 1), false);
            sheet.due("swing(0, " + wild + ")", x.swing(0, wild), false);
            refused += 2;
        }
        sheet.due("refused", Sheet.refusals(x), "0 0 0 " + refused + " 0 0");
        sheet.due("all stays", Sheet.state(x), state);
        sheet.due("opened", x.swing(0, 1), true);
        sheet.due("open", x.door(0, 4), 1);
        sheet.due("open already", x.swing(0, 1), false);
        sheet.due("shut", x.swing(1, 0), true);
        sheet.due("shut", x.door(1, 4), 0);
        sheet.due("shut already", x.swing(1, 0), false);
        sheet.due("opened again", x.swing(1, 1), true);
        sheet.due("ACTS", x.has(11), 3);
        sheet.due("without a room", new SoapDeeds().swing(0, 1), false);
        // The sixth of six.
        StringBuilder six = new StringBuilder("room 3 by 3;");
        for (int k = 0; k < 6; k++) {
            six.append("door d").append((char) ('a' + k)).append(" at 0 0 blows 1 reach 1;");
        }
        SoapDeeds y = sheet.in(six.toString());
        sheet.due("the sixth", y.swing(5, 1), true);
        sheet.due("no seventh", y.swing(6, 1), false);
        sheet.parts("OPEN", door -> y.door(door, 4), 0, 0, 0, 0, 0, 1);
    }

    private void tiptoe() {
        sheet.promise(28);
        sheet.says("A HEIR goes along a WAY: true; false, refused (3), when that CELL is not in the room, a HEIR is in it, there is none such, or for others.");
        int[][] steps = {{0, -1}, {1, 0}, {0, 1}, {-1, 0}};
        for (int column = 0; column < 3; column++) {
            for (int row = 0; row < 4; row++) {
                for (int way = -1; way <= 4; way++) {
                    SoapDeeds x = sheet.in("room 3 by 4;bubble p at 1 1 film 9 size 1;heir h at " + column + " " + row + " tall 0;");
                    int c = way < 0 || way > 3 ? NONE : column + steps[way][0];
                    int r = way < 0 || way > 3 ? NONE : row + steps[way][1];
                    boolean can = c >= 0 && c < 3 && r >= 0 && r < 4;
                    sheet.due("from " + column + " " + row + " along " + way, x.tiptoe(0, way), can);
                    sheet.due("column", x.heir(0, 0), can ? c : column);
                    sheet.due("row", x.heir(0, 1), can ? r : row);
                    sheet.due("refused", x.status(3), can ? 0 : 1);
                    sheet.due("ACTS", x.has(11), can ? 1 : 0);
                }
            }
        }
        SoapDeeds x = sheet.in("room 3 by 3;heir m at 1 1 tall 0;heir n at 1 0 tall 0;heir e at 2 1 tall 0;heir s at 1 2 tall 0;heir w at 0 1 tall 0;");
        String state = Sheet.state(x);
        for (int way = 0; way < 4; way++) {
            sheet.due("a HEIR is in it, way " + way, x.tiptoe(0, way), false);
        }
        int refused = 4;
        for (int wild : Sheet.WILD) {
            sheet.due("heir " + wild, x.tiptoe(wild, 0), false);
            sheet.due("way " + wild, x.tiptoe(0, wild), false);
            refused += 2;
        }
        sheet.due("no sixth", x.tiptoe(5, 1), false);
        sheet.due("heir -1", x.tiptoe(-1, 1), false);
        sheet.due("refused", Sheet.refusals(x), "0 0 0 " + (refused + 2) + " 0 0");
        sheet.due("all stays", Sheet.state(x), state);
        sheet.due("the fifth goes", x.tiptoe(4, 2), true);
        sheet.due("and the first where he was", x.tiptoe(0, 3), true);
        sheet.due("without a room", new SoapDeeds().tiptoe(0, 1), false);
    }

    private void carry() {
        sheet.promise(29);
        sheet.says("The lamp is carried to a CELL: true; false, refused (3), when it is there, or there is none such.");
        for (int column = -1; column <= 3; column++) {
            for (int row = -1; row <= 4; row++) {
                boolean there = column >= 0 && column < 3 && row >= 0 && row < 4;
                boolean can = there && !(column == 1 && row == 1);
                SoapDeeds x = sheet.in(ROOM);
                sheet.due("to " + column + " " + row, x.carry(column, row), can);
                sheet.due("column", x.lamp(0), can ? column : 1);
                sheet.due("row", x.lamp(1), can ? row : 1);
                sheet.due("refused", Sheet.refusals(x), can ? "0 0 0 0 0 0" : "0 0 0 1 0 0");
                sheet.due("ACTS", x.has(11), can ? 1 : 0);
                sheet.due("a first lamp to " + column + " " + row, sheet.in("room 3 by 4;").carry(column, row), there);
            }
        }
        SoapDeeds x = sheet.in(ROOM);
        for (int wild : Sheet.WILD) {
            sheet.due("column " + wild, x.carry(wild, 0), false);
            sheet.due("row " + wild, x.carry(0, wild), false);
        }
        sheet.due("refused", x.status(3), 2 * Sheet.WILD.length);
        sheet.due("carried", x.carry(2, 3), true);
        sheet.due("it is there", x.carry(2, 3), false);
        sheet.due("back", x.carry(1, 1), true);
        sheet.due("without a room", new SoapDeeds().carry(0, 0), false);
    }

    private interface Act {
        boolean done(SoapDeeds x);
    }

    private void undo() {
        sheet.promise(30);
        sheet.says("The latest ACT is undone: all is as it was ahead of it (but the seed): true;");
        Act[] acts = {x -> x.seconds(1) != NONE, x -> x.seconds(40) != NONE, x -> x.chance(1) != NONE, x -> x.chance(40) != NONE, x -> x.swing(0, 1),
            x -> x.swing(1, 0), x -> x.tiptoe(0, 2), x -> x.tiptoe(1, 0), x -> x.carry(0, 0), x -> x.carry(2, 3)};
        for (int k = 0; k < acts.length; k++) {
            SoapDeeds x = sheet.in(ROOM);
            x.seconds(2);
            String state = Sheet.state(x);
            int seed = x.has(12);
            sheet.due("act " + k, acts[k].done(x), true);
            sheet.due("it can be undone", x.has(11), 2);
            int drawn = x.has(12);
            sheet.due("it draws by the seed alone", drawn != seed, k == 2 || k == 3);
            sheet.due("undo", x.undo(), true);
            sheet.due("the seed stays", x.has(12), drawn);
            sheet.due("all is as it was", Sheet.state(x), state.replace("seed " + seed + " ", "seed " + drawn + " "));
            sheet.due("KEPT is as it was", x.has(9), 1);
            sheet.due("undone ones are no ACTS", x.has(11), 1);
            sheet.due("nothing was refused", Sheet.refusals(x), "0 0 0 0 0 0");
            sheet.due("it can be done again", acts[k].done(x), true);
        }
        SoapDeeds x = sheet.in(ROOM);
        x.carry(0, 0);
        x.carry(1, 0);
        x.carry(2, 0);
        sheet.due("the latest", x.undo(), true);
        sheet.due("it", x.lamp(0), 1);
        x.carry(2, 2);
        sheet.due("the latest", x.undo(), true);
        sheet.due("it", x.lamp(0), 1);
        sheet.due("the one ahead", x.undo(), true);
        sheet.due("it", x.lamp(0), 0);
        // FELT, the tape and refusals are no part of an ACT.
        Sheet.felt(x, 0, 2, 1, 3);
        x.feed(0, 0, 0, 0, 0);
        x.swing(9, 9);
        sheet.due("the first", x.undo(), true);
        sheet.due("FELT stays", x.has(10), 1);
        sheet.due("the tape stays", x.end(20), true);
        sheet.due("refusals stay", x.status(3), 1);
    }

    private void undoRefused() {
        sheet.promise(30);
        sheet.says("false, refused (4), when none can be.");
        SoapDeeds x = sheet.in(ROOM);
        String state = Sheet.state(x);
        sheet.due("at first", x.undo(), false);
        sheet.due("refused", Sheet.refusals(x), "0 0 0 0 1 0");
        sheet.due("all stays", Sheet.state(x), state);
        x.seconds(1);
        sheet.due("one", x.undo(), true);
        sheet.due("no more", x.undo(), false);
        sheet.due("refused", x.status(4), 2);
        x.swing(0, 0);
        x.tiptoe(0, 0);
        x.seconds(0);
        sheet.due("behind refused calls", x.undo(), false);
        x.seconds(1);
        Sheet.room(x, ROOM);
        sheet.due("behind room()", x.undo(), false);
        x.seconds(1);
        Sheet.on(x, Sheet.image(x));
        sheet.due("behind on()", x.undo(), false);
        x.seconds(1);
        Sheet.room(x, "room");
        x.on();
        sheet.due("behind a refused room(), on()", x.undo(), true);
        sheet.due("without a room", new SoapDeeds().undo(), false);
    }

    private void seed() {
        sheet.promise(31);
        sheet.says("The seed: true; false, refused (5), when it is below 0.");
        for (SoapDeeds x : new SoapDeeds[] {new SoapDeeds(), sheet.in(ROOM)}) {
            int refused = 0;
            for (int seed : new int[] {0, 1, 2, 65535, 65536, Integer.MAX_VALUE - 1, Integer.MAX_VALUE}) {
                sheet.due("seed(" + seed + ")", x.seed(seed), true);
                sheet.due("it", x.has(12), seed);
                for (int low : new int[] {-1, -2, -65536, Integer.MIN_VALUE + 1, Integer.MIN_VALUE}) {
                    sheet.due("seed(" + low + ")", x.seed(low), false);
                    refused++;
                    sheet.due("it stays", x.has(12), seed);
                }
            }
            sheet.due("refused", Sheet.refusals(x), "0 0 0 0 0 " + refused);
            sheet.due("no ACT", x.has(11), 0);
        }
    }

    private void kept() {
        sheet.promise(32);
        sheet.says("Of what is told as KEPT, the k-th from the oldest on: 0 SECOND, 1 BUBBLE, 2 the HEIR (NONE), 3 how many DEEDS. NONE when there is none such, or for others.");
        SoapDeeds x = sheet.in(ROOM);
        sheet.due("nothing at first", x.kept(0, 0), NONE);
        x.seconds(3);
        sheet.parts("the oldest", what -> x.kept(0, what), 1, 1, NONE, 1);
        sheet.parts("the latest", what -> x.kept(1, what), 2, 0, 0, 1);
        sheet.parts("SECONDS", k -> x.kept(k, 0), 1, 2);
        sheet.parts("DEEDS", k -> x.kept(k, 3), 1, 1);
        x.undo();
        sheet.due("nothing behind undo()", x.kept(0, 0), NONE);
        SoapDeeds y = sheet.in(ROOM);
        y.seconds(2);
        y.seconds(1);
        sheet.due("two", y.has(9), 2);
        y.undo();
        sheet.due("one behind undo()", y.has(9), 1);
        sheet.due("the oldest", y.kept(0, 0), 1);
        sheet.due("none behind it", y.kept(1, 0), NONE);
        y.chance(1);
        Sheet.on(y, Sheet.image(y));
        sheet.due("none behind on()", y.kept(0, 0), NONE);
        sheet.due("without a room", new SoapDeeds().kept(0, 0), NONE);
    }

    private void status() {
        sheet.promise(36);
        sheet.says("How many were refused: 0 feed(), end(); 1 room(); 2 seconds(), chance(); 3 swing(), tiptoe(), carry(); 4 undo(); 5 seed(), feel(), on(). NONE for others.");
        SoapDeeds x = sheet.in(ROOM);
        sheet.parts("at first", x::status, 0, 0, 0, 0, 0, 0);
        x.end(1);
        sheet.due("end()", Sheet.refusals(x), "1 0 0 0 0 0");
        x.room();
        sheet.due("room()", Sheet.refusals(x), "1 1 0 0 0 0");
        x.seconds(0);
        sheet.due("seconds()", Sheet.refusals(x), "1 1 1 0 0 0");
        x.chance(0);
        sheet.due("chance()", Sheet.refusals(x), "1 1 2 0 0 0");
        x.swing(0, 0);
        sheet.due("swing()", Sheet.refusals(x), "1 1 2 1 0 0");
        x.tiptoe(0, 0);
        sheet.due("tiptoe()", Sheet.refusals(x), "1 1 2 2 0 0");
        x.carry(1, 1);
        sheet.due("carry()", Sheet.refusals(x), "1 1 2 3 0 0");
        x.undo();
        sheet.due("undo()", Sheet.refusals(x), "1 1 2 3 1 0");
        x.seed(-1);
        sheet.due("seed()", Sheet.refusals(x), "1 1 2 3 1 1");
        x.feel();
        sheet.due("feel()", Sheet.refusals(x), "1 1 2 3 1 2");
        x.on();
        sheet.due("on()", Sheet.refusals(x), "1 1 2 3 1 3");
        for (int k = 0; k < 80; k++) {
            x.feed(0, 0, 0, 0, 0);
        }
        sheet.due("no feed()", Sheet.refusals(x), "1 1 2 3 1 3");
        x.feed(0, 0, 0, 0, 0);
        sheet.due("feed()", Sheet.refusals(x), "2 1 2 3 1 3");
        x.end(0);
        // What answers NONE without being refused counts nothing.
        int[] asked = {x.fault(9), x.has(99), x.letter(9, 9, 9), x.lamp(9), x.door(9, 9), x.heir(9, 9), x.bubble(9, 9), x.deed(9, 9), x.draught(9, 9),
            x.later(9, 9, 9), x.goes(9), x.owner(9, 9), x.doors(9, 9, 9), x.stand(9, 9, 9), x.shine(9, 9), x.lasts(9, 9), x.odds(9, 9), x.from(9, 9),
            x.tells(9, 9), x.kept(9, 9), x.octet(999), x.status(9)};
        for (int k = 0; k < asked.length; k++) {
            sheet.due("asked " + k, asked[k], NONE);
        }
        sheet.due("as before", Sheet.refusals(x), "2 1 2 3 1 3");
        Sheet.room(x, "room 3 by 3;");
        sheet.due("a new room() forgets none", Sheet.refusals(x), "2 1 2 3 1 3");
    }
}
