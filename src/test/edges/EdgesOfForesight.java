/** Promises 14 to 24: what is AHEAD; doors, places, films; where it was blown. */
final class EdgesOfForesight {
    private static final int NONE = Sheet.NONE;
    // p bursts on h behind 3 SECONDS, q behind 2, on nobody; r floats on.
    private static final String ROOM = "room 3 by 4;heir h at 2 0 tall 1;heir k at 0 3 tall 1;door d at 0 0 blows 1 reach 2;open d;"
        + "bubble p at 0 0 film 3 size 1;bubble q at 0 2 film 2 size 1;bubble r at 2 3 film 99 size 1;";
    private final Sheet sheet;

    EdgesOfForesight(Sheet sheet) {
        this.sheet = sheet;
    }

    void run() {
        later();
        goes();
        owner();
        doors();
        stand();
        shine();
        lasts();
        odds();
        feel();
        feelRefused();
        from();
        fromBeyond();
        tells();
    }

    private interface Call {
        int answer(SoapDeeds x);
    }

    private interface ByNumber {
        int answer(SoapDeeds x, int n);
    }

    /** Where n can be from least to most, at first and near SECOND 999; what it answers then is not NONE. */
    private void bounds(String what, String room, int least, int most, ByNumber asked) {
        for (int second : new int[] {0, 998 - most, 999 - most, 1000 - most, 1001 - most, 997, 998, 999}) {
            SoapDeeds x = sheet.inAt(second, room);
            for (int n : new int[] {Integer.MIN_VALUE, -1000, -2, -1, 0, 1, 2, most - 2, most - 1, most, most + 1, most + 2, 1000, Integer.MAX_VALUE - 998,
                Integer.MAX_VALUE}) {
                boolean can = n >= least && n <= most && second + n <= 999;
                sheet.due(what + " " + n + " in SECOND " + second, asked.answer(x, n) != NONE, can);
            }
        }
    }

    private void later() {
        sheet.promise(14);
        sheet.says("Of a BUBBLE behind n SECONDS AHEAD (0 .. 40): 0 column, 1 row (NONE each: GONE), 2 film (0: GONE).");
        SoapDeeds x = sheet.in(ROOM);
        int[][] want = {{0, 0, 3}, {1, 0, 2}, {2, 0, 1}, {NONE, NONE, 0}};
        for (int n = 0; n < 4; n++) {
            int seconds = n;
            sheet.parts("p behind " + n + " part", what -> x.later(0, seconds, what), want[n]);
        }
        SoapDeeds y = sheet.in(ROOM);
        sheet.parts("p behind 40 part", what -> y.later(0, 40, what), NONE, NONE, 0);
        sheet.parts("r behind 39 part", what -> y.later(2, 39, what), 2, 3, 60);
        sheet.parts("r behind 40 part", what -> y.later(2, 40, what), 2, 3, 59);
        sheet.parts("r behind 41 part", what -> y.later(2, 41, what));
        y.seconds(3);
        sheet.parts("one that is GONE now", what -> y.later(0, 0, what), NONE, NONE, 0);
        sheet.says("NONE when there is none such, n can't be, or for others.");
        SoapDeeds z = sheet.in(ROOM);
        sheet.parts("films by BUBBLES", bubble -> z.later(bubble, 0, 2), 3, 2, 99);
        bounds("the film behind", ROOM, 0, 40, (a, n) -> a.later(2, n, 2));
        bounds("the column behind", ROOM, 0, 40, (a, n) -> a.later(2, n, 0));
        sheet.due("without a room", new SoapDeeds().later(0, 0, 2), NONE);
    }

    private void goes() {
        sheet.promise(15);
        sheet.says("In which SECOND AHEAD (0 .. 39; 0 the next one) a BUBBLE is GONE; NONE when it is GONE already, is not, or there is none such.");
        for (int film : new int[] {1, 2, 39, 40, 41, 42, 99}) {
            SoapDeeds x = sheet.in("room 3 by 3;bubble p at 0 0 film " + film + " size 1;");
            sheet.due("a film of " + film, x.goes(0), film <= 40 ? film - 1 : NONE);
            x.seconds(1);
            sheet.due("a film of " + film + " behind one", x.goes(0), film == 1 || film > 41 ? NONE : film - 2);
        }
        // Not beyond SECOND 999.
        for (int second : new int[] {958, 959, 960, 961, 996, 997, 998, 999}) {
            for (int film : new int[] {1, 2, 3, 39, 40, 41}) {
                SoapDeeds x = sheet.inAt(second, "room 3 by 3;bubble p at 0 0 film " + film + " size 1;");
                sheet.due("a film of " + film + " in " + second, x.goes(0), film <= 40 && second + film <= 999 ? film - 1 : NONE);
            }
        }
        SoapDeeds x = sheet.in(ROOM);
        sheet.parts("by BUBBLES", x::goes, 2, 1, NONE);
        SoapDeeds joined = sheet.in("room 7 by 3;door d at 0 0 blows 1 reach 6;open d;bubble p at 6 0 film 99 size 1;bubble q at 0 0 film 99 size 1;");
        sheet.due("GONE by joining", joined.goes(1), 5);
        sheet.due("the other is not", joined.goes(0), NONE);
        sheet.due("without a room", new SoapDeeds().goes(0), NONE);
    }

    private void owner() {
        sheet.promise(16);
        sheet.says("Who owns a DEED behind n SECONDS AHEAD (0 .. 40); NONE when nobody does, there is none such, or n can't be.");
        SoapDeeds x = sheet.in(ROOM);
        sheet.parts("behind 2, by DEEDS", deed -> x.owner(deed, 2), NONE, NONE, NONE);
        sheet.parts("behind 3, by DEEDS", deed -> x.owner(deed, 3), 0, NONE, NONE);
        sheet.parts("behind 40, by DEEDS", deed -> x.owner(deed, 40), 0, NONE, NONE);
        sheet.parts("behind 41, by DEEDS", deed -> x.owner(deed, 41), NONE, NONE, NONE);
        SoapDeeds late = sheet.in("room 3 by 3;heir h at 1 1 tall 0;heir k at 0 0 tall 0;bubble p at 0 0 film 40 size 1;bubble q at 1 1 film 41 size 1;");
        sheet.due("behind 39", late.owner(0, 39), NONE);
        sheet.due("behind 40", late.owner(0, 40), 1);
        sheet.due("not yet behind 40", late.owner(1, 40), NONE);
        sheet.due("41 can't be", late.owner(1, 41), NONE);
        SoapDeeds more = sheet.in("room 3 by 3;heir h at 2 0 tall 0;bubble p at 0 0 film 9 size 1;bubble q at 1 0 film 9 size 1;bubble r at 2 0 film 1 size 1;");
        sheet.parts("more DEEDS than HEIRS", deed -> more.owner(deed, 1), NONE, NONE, 0);
        sheet.parts("DOORS for them", deed -> more.doors(deed, 0, 1), NONE, NONE, 0);
        sheet.parts("ODDS of them", deed -> more.odds(deed, 0), 0, 0, 400);
        SoapDeeds fewer = sheet.in("room 3 by 3;heir h at 2 0 tall 0;heir k at 0 0 tall 0;bubble p at 0 0 film 1 size 1;");
        sheet.parts("fewer DEEDS than HEIRS", deed -> fewer.owner(deed, 1), 1);
        sheet.parts("DOORS for them", deed -> fewer.doors(deed, 1, 1), 0);
        sheet.parts("ODDS of them", deed -> fewer.odds(deed, 1), 400);
        bounds("the owner behind", owned(), 0, 40, (a, n) -> owningFirst(a).owner(0, n));
        sheet.due("without a room", new SoapDeeds().owner(0, 0), NONE);
    }

    /** A room in which h can own a DEED from now on. */
    private static String owned() {
        return "room 3 by 3;heir h at 0 0 tall 0;bubble p at 0 0 film 1 size 1;";
    }

    /** The same with the DEED owned by h already, in the SECOND that it is. */
    private static SoapDeeds owningFirst(SoapDeeds x) {
        int second = x.has(5);
        Sheet.on(x, second / 256, second % 256, 255, 255, 0, 0, 255, 255, 0, 0, 0, 0, 0, 0, 0);
        return x;
    }

    private void doors() {
        sheet.promise(17);
        sheet.says("DOORS for a DEED, a HEIR, n SECONDS (0 .. 20), as bits; NONE without a set, when there are none such, or n can't be.");
        SoapDeeds x = sheet.in(ROOM);
        sheet.due("as it is", x.doors(0, 0, 3), 0);
        sheet.due("too soon", x.doors(0, 0, 2), NONE);
        sheet.due("without a set", x.doors(0, 1, 20), NONE);
        sheet.parts("by DEEDS", deed -> x.doors(deed, 0, 3), 0, NONE, NONE);
        sheet.parts("by HEIRS", heir -> x.doors(0, heir, 3), 0, NONE);
        x.swing(0, 0);
        sheet.due("opened", x.doors(0, 0, 3), 1);
        sheet.due("behind 0", x.doors(0, 0, 0), NONE);
        SoapDeeds late = sheet.in("room 3 by 3;heir h at 0 0 tall 0;bubble p at 0 0 film 20 size 1;");
        sheet.due("behind 19", late.doors(0, 0, 19), NONE);
        sheet.due("behind 20", late.doors(0, 0, 20), 0);
        sheet.due("behind 21", late.doors(0, 0, 21), NONE);
        behindDoors();
        bounds("DOORS behind", owned(), 0, 20, (a, n) -> owningFirst(a).doors(0, 0, n));
        sheet.due("without a room", new SoapDeeds().doors(0, 0, 0), NONE);
    }

    /** What is tried for DOORS leaves nothing to the calls behind it: d is shut for them. */
    private void behindDoors() {
        String text = "room 3 by 3;door d at 0 0 blows 1 reach 6;heir h at 0 0 tall 0;heir k at 2 2 tall 0;bubble p at 0 0 film 2 size 1;";
        Call[] calls = {x -> x.later(0, 1, 0), x -> x.owner(0, 2), x -> x.goes(0), x -> x.stand(0, 2, 0), x -> x.shine(1, 0), x -> x.odds(0, 0),
            x -> x.from(0, NONE), x -> x.tells(0, 1), x -> x.draught(0, 0), x -> x.seconds(1) + x.bubble(0, 0)};
        int[] want = {0, 0, 1, 0, 0, 0, 9, 1, NONE, 0};
        for (int k = 0; k < calls.length; k++) {
            SoapDeeds x = sheet.in(text);
            sheet.due("no set", x.doors(0, 1, 2), NONE);
            sheet.due("call " + k + " behind doors()", calls[k].answer(x), want[k]);
        }
        SoapDeeds late = sheet.in(text);
        late.seconds(1);
        sheet.due("no set", late.doors(0, 1, 1), NONE);
        sheet.due("ODDS behind doors()", late.odds(0, 0), 400);
        SoapDeeds lamp = sheet.in(text.replace("film 2", "film 50"));
        sheet.due("no set", lamp.doors(0, 1, 2), NONE);
        sheet.due("SHINE behind doors()", lamp.shine(3, 2), 12);
        sheet.due("no set", lamp.doors(0, 1, 2), NONE);
        sheet.due("LAST behind doors()", lamp.lasts(0, 1), 2);
    }

    private void stand() {
        sheet.promise(18);
        sheet.says("To STAND, n SECONDS (1 .. 20): column (what 0), row (1), how many DEEDS he owns then (2). NONE when there is none such, n can't be, or for others.");
        SoapDeeds x = sheet.in(ROOM);
        sheet.parts("behind 1", what -> x.stand(0, 1, what), 0, 0, 0);
        sheet.parts("behind 2", what -> x.stand(0, 2, what), 0, 2, 1);
        sheet.parts("behind 3", what -> x.stand(0, 3, what), 2, 0, 1);
        sheet.parts("the other, behind 3", what -> x.stand(1, 3, what), 0, 2, 1);
        SoapDeeds y = sheet.in(ROOM);
        sheet.parts("by HEIRS", heir -> y.stand(heir, 3, 2), 1, 1);
        SoapDeeds late = sheet.in("room 3 by 3;heir h at 0 0 tall 0;bubble p at 2 2 film 20 size 1;");
        sheet.parts("behind 19", what -> late.stand(0, 19, what), 0, 0, 0);
        sheet.parts("behind 20", what -> late.stand(0, 20, what), 2, 2, 1);
        sheet.parts("behind 21", what -> late.stand(0, 21, what));
        for (int part = 0; part < 3; part++) {
            int what = part;
            bounds("STAND " + part + " behind", ROOM, 1, 20, (a, n) -> a.stand(0, n, what));
        }
        sheet.due("without a HEIR", sheet.in("room 3 by 3;").stand(0, 1, 2), NONE);
        sheet.due("without a room", new SoapDeeds().stand(0, 1, 2), NONE);
    }

    private void shine() {
        sheet.promise(19);
        sheet.says("SHINE, n SECONDS (1 .. 20): column (what 0), row (1), the RENT of all then (2). NONE without a room, when n can't be, or for others.");
        SoapDeeds x = sheet.in("room 3 by 5;bubble p at 2 4 film 50 size 1;hue 3;");
        sheet.parts("behind 1", what -> x.shine(1, what), 2, 4, 3);
        sheet.parts("behind 20", what -> x.shine(20, what), 2, 4, 60);
        sheet.parts("behind 21", what -> x.shine(21, what));
        sheet.parts("behind 0", what -> x.shine(0, what));
        sheet.parts("behind 1 again", what -> x.shine(1, what), 2, 4, 3);
        SoapDeeds owned = sheet.in("room 3 by 5;heir h at 0 0 tall 0;bubble p at 0 0 film 1 size 1;");
        sheet.due("a STAND ahead of it", owned.stand(0, 1, 2), 1);
        sheet.parts("no RENT", what -> owned.shine(1, what), 0, 0, 0);
        SoapDeeds late = sheet.in("room 3 by 5;bubble p at 2 4 film 50 size 1;hue if(second=19,1,0);");
        sheet.parts("behind 19", what -> late.shine(19, what), 0, 0, 0);
        sheet.parts("behind 20", what -> late.shine(20, what), 2, 4, 1);
        for (int part = 0; part < 3; part++) {
            int what = part;
            bounds("SHINE " + part + " behind", ROOM, 1, 20, (a, n) -> a.shine(n, what));
            sheet.due("without a room", new SoapDeeds().shine(1, part), NONE);
            sheet.due("without any BUBBLE", sheet.in("room 3 by 3;").shine(1, part), 0);
        }
    }

    private void lasts() {
        sheet.promise(20);
        sheet.says("To LAST, n SECONDS (1 .. 20): the film; NONE without one, when it is GONE, there is none such, or n can't be.");
        SoapDeeds x = sheet.in(ROOM);
        sheet.due("1", x.lasts(2, 1), 2);
        sheet.due("19", x.lasts(2, 19), 20);
        sheet.due("20", x.lasts(2, 20), 21);
        sheet.due("0", x.lasts(2, 0), NONE);
        sheet.due("21", x.lasts(2, 21), NONE);
        sheet.parts("by BUBBLES", bubble -> x.lasts(bubble, 3), 4, 4, 4);
        x.seconds(2);
        sheet.due("GONE", x.lasts(1, 1), NONE);
        sheet.due("not GONE", x.lasts(0, 1), 2);
        sheet.due("without one", sheet.in("room 3 by 3;bubble p at 0 0 film 9 size 1;bursts all;").lasts(0, 1), NONE);
        bounds("the film that lasts", ROOM, 1, 20, (a, n) -> a.lasts(2, n));
        sheet.due("without a room", new SoapDeeds().lasts(0, 1), NONE);
    }

    private void odds() {
        sheet.promise(21);
        sheet.says("ODDS of a DEED, a HEIR (400 rows); NONE when there are none such, or beyond SECOND 999.");
        String text = "room 3 by 3;heir h at 0 0 tall 0;heir k at 1 0 tall 0;bubble p at 0 0 film 1 size 1;bubble q at 2 2 film 1 size 1;breath 10;";
        SoapDeeds x = sheet.in(text);
        sheet.parts("by DEEDS", deed -> x.odds(deed, 0), 380, 0);
        sheet.parts("by HEIRS", heir -> x.odds(0, heir), 380, 10);
        for (int second : new int[] {0, 997, 998, 999}) {
            SoapDeeds late = sheet.inAt(second, text);
            sheet.due("in SECOND " + second, late.odds(0, 0), second < 999 ? 380 : NONE);
            sheet.due("never in SECOND " + second, late.odds(1, 0), second < 999 ? 0 : NONE);
        }
        sheet.due("400 rows", sheet.in("room 3 by 3;heir h at 0 0 tall 0;bubble p at 0 0 film 1 size 1;").odds(0, 0), 400);
        sheet.due("without a HEIR", sheet.in("room 3 by 3;bubble p at 0 0 film 1 size 1;").odds(0, 0), NONE);
        sheet.due("without a room", new SoapDeeds().odds(0, 0), NONE);
    }

    private void feel() {
        sheet.promise(22);
        sheet.says("The tape (it goes) tells FELT, 1 to 16 rows of four bytes: how many rows;");
        for (int rows = 0; rows <= 18; rows++) {
            SoapDeeds x = sheet.in(ROOM);
            boolean can = rows >= 1 && rows <= 16;
            sheet.due(rows + " rows", Sheet.felt(x, new int[4 * rows]), can ? rows : NONE);
            sheet.due("FELT", x.has(10), can ? rows : 0);
            sheet.due("the tape went", x.end(1), false);
            sheet.due("refused", x.status(5), can ? 0 : 1);
        }
        for (int bytes : new int[] {1, 2, 3, 5, 6, 7, 61, 62, 63, 65, 66, 67, 1600}) {
            SoapDeeds x = sheet.in(ROOM);
            sheet.due(bytes + " bytes", Sheet.felt(x, new int[bytes]), NONE);
            sheet.due("the tape went", x.end(1), false);
            sheet.due("refused", x.status(5), 1);
        }
        // The last of sixteen counts as the first does.
        SoapDeeds x = sheet.in(ROOM);
        int[] rows = new int[64];
        sheet.due("sixteen", Sheet.felt(x, rows), 16);
        sheet.due("all the same", x.from(0, NONE), 1);
        rows[62] = 1;
        sheet.due("sixteen", Sheet.felt(x, rows), 16);
        sheet.due("the last is not so", x.from(0, NONE), 0);
        sheet.due("fewer than there were", Sheet.felt(x, 0, 0, 1, 1), 1);
        sheet.due("the old ones are gone", x.from(0, 0), 9);
    }

    private void feelRefused() {
        sheet.promise(22);
        sheet.says("NONE, refused (5), when it is none such.");
        int[][] bad = {{}, {0, 0, 0}, {31, 0, 0, 0}, {255, 0, 0, 0}, {0, 3, 0, 0}, {0, 255, 0, 0}, {0, 0, 3, 0}, {0, 0, 0, 4}, {0, 0, 255, 0}, {0, 0, 0, 255},
            {0, 0, 0, 0, 31, 0, 0, 0}, {0, 0, 0, 0, 0, 3, 0, 0}, {0, 0, 0, 0, 0, 0, 3, 0}, {0, 0, 0, 0, 0, 0, 0, 4}, {0, 0, 0, 0, 0, 0, 255, 3}};
        SoapDeeds x = sheet.in(ROOM);
        sheet.due("good rows", Sheet.felt(x, 30, 2, 2, 3, 0, 2, 2, 3), 2);
        for (int k = 0; k < bad.length; k++) {
            sheet.due("bad rows " + k, Sheet.felt(x, bad[k]), NONE);
            sheet.due("refused", Sheet.refusals(x), "0 0 0 0 0 " + (k + 1));
            sheet.due("FELT stays", x.has(10), 2);
        }
        sheet.due("it is so still", x.from(2, NONE), 1);
        sheet.due("good rows", Sheet.felt(x, 30, 2, 255, 255), 1);
        sheet.due("one that is GONE can be FELT", Sheet.felt(x, 0, 1, 255, 255), 1);
        SoapDeeds none = new SoapDeeds();
        sheet.due("without a room", Sheet.felt(none, 0, 0, 0, 0), NONE);
        sheet.due("without a room", Sheet.felt(none, 0, 0, 255, 255), NONE);
        sheet.due("refused", none.status(5), 2);
        sheet.due("without a BUBBLE", Sheet.felt(sheet.in("room 3 by 3;"), 0, 0, 255, 255), NONE);
    }

    private void from() {
        sheet.promise(23);
        sheet.says("FROM for a BUBBLE that floats by FELT (of the latest feel() of this ROOM that was not refused; all CELLS, if there was none;");
        SoapDeeds x = sheet.in(ROOM);
        sheet.due("all CELLS", x.from(2, NONE), 12);
        Sheet.felt(x, 1);
        sheet.due("none but a refused one", x.from(2, NONE), 12);
        Sheet.felt(x, 0, 2, 1, 1);
        sheet.due("one", x.from(2, NONE), 1);
        Sheet.felt(x, 0, 2, 0, 1);
        sheet.due("the latest", x.from(2, 0), 8);
        Sheet.felt(x, 0, 9, 1, 1);
        sheet.due("the latest that was not refused", x.from(2, 0), 8);
        Sheet.room(x, "room");
        sheet.due("of this ROOM still", x.from(2, 0), 8);
        x.seconds(1);
        x.undo();
        Sheet.on(x, Sheet.image(x));
        sheet.due("of this ROOM still", x.from(2, 0), 8);
        sheet.due("FELT", x.has(10), 1);
        Sheet.room(x, ROOM);
        sheet.due("of another ROOM", x.from(2, NONE), 12);
        sheet.due("FELT", x.has(10), 0);
        sheet.says("how many (k NONE), the k-th, row by row: 8 times its row and its column. NONE when there is none such.");
        SoapDeeds y = sheet.in(ROOM);
        sheet.parts("how many by BUBBLES", bubble -> y.from(bubble, NONE), 12, 12, 12);
        int[] cells = {0, 1, 2, 8, 9, 10, 16, 17, 18, 24, 25, 26};
        for (int k = 0; k < 12; k++) {
            sheet.due("the CELL " + k, y.from(0, k), cells[k]);
        }
        for (int k : new int[] {12, 13, 64, 65, -2, -3, Integer.MIN_VALUE, Integer.MAX_VALUE}) {
            sheet.due("no CELL " + k, y.from(0, k), NONE);
        }
        SoapDeeds wide = sheet.in("room 7 by 7;bubble p at 0 0 film 9 size 1;");
        sheet.due("49", wide.from(0, NONE), 49);
        sheet.due("the last", wide.from(0, 48), 54);
        sheet.due("none behind it", wide.from(0, 49), NONE);
        y.seconds(2);
        sheet.due("GONE", y.from(1, NONE), NONE);
        sheet.due("GONE", y.from(1, 0), NONE);
        sheet.due("without a room", new SoapDeeds().from(0, NONE), NONE);
    }

    private void fromBeyond() {
        sheet.promise(23);
        sheet.says("SECONDS beyond 999 are by none):");
        String text = "room 3 by 3;bubble p at 0 0 film 99 size 1;";
        for (int second : new int[] {0, 968, 969, 970, 971, 997, 998, 999}) {
            for (int n : new int[] {0, 1, 2, 28, 29, 30}) {
                SoapDeeds x = sheet.inAt(second, text);
                sheet.due("feel()", Sheet.felt(x, n, 0, 1, 1), 1);
                sheet.due(n + " from " + second, x.from(0, NONE), second + n <= 999 ? 1 : 0);
                sheet.due(n + " from " + second, x.from(0, 0), second + n <= 999 ? 9 : NONE);
                // One row that can't be so is enough, wherever it stands.
                Sheet.felt(x, n, 0, 1, 1, 0, 0, 1, 1);
                sheet.due("the first of two", x.from(0, NONE), second + n <= 999 ? 1 : 0);
                Sheet.felt(x, 0, 0, 1, 1, n, 0, 1, 1);
                sheet.due("the last of two", x.from(0, NONE), second + n <= 999 ? 1 : 0);
            }
        }
        // Rows of an earlier feel() count no more.
        for (int second : new int[] {970, 999}) {
            SoapDeeds x = sheet.inAt(second, text);
            Sheet.felt(x, 0, 0, 1, 1, 30, 0, 1, 1, 30, 0, 1, 1);
            sheet.due("beyond 999", x.from(0, NONE), 0);
            Sheet.felt(x, 0, 0, 1, 1);
            sheet.due("no more of it", x.from(0, NONE), 1);
            Sheet.felt(x, 0, 0, 1, 1, 30, 0, 1, 1);
            Sheet.room(x, text);
            int[] image = Sheet.image(x);
            image[0] = second / 256;
            image[1] = second % 256;
            sheet.due("on()", Sheet.on(x, image), true);
            sheet.due("nor in a new ROOM", x.from(0, NONE), 9);
        }
        SoapDeeds gone = sheet.inAt(999, "room 3 by 3;bubble p at 0 0 film 1 size 1;");
        Sheet.felt(gone, 1, 0, 255, 255);
        sheet.due("GONE beyond 999 is by none, too", gone.from(0, NONE), 0);
    }

    private void tells() {
        sheet.promise(24);
        sheet.says("TELLING of a BUBBLE that floats: behind how many SECONDS (what 0), how many CELLS are left at the most (1).");
        SoapDeeds x = sheet.in("room 3 by 3;door d at 0 0 blows 1 reach 6;open d;bubble p at 0 0 film 9 size 1;bubble q at 2 2 film 1 size 1;");
        sheet.parts("p", what -> x.tells(0, what), 1, 2);
        sheet.parts("q", what -> x.tells(1, what), 1, 9);
        sheet.says("NONE without any left, when no SECOND comes, there is none such, or for others.");
        sheet.parts("by BUBBLES", bubble -> x.tells(bubble, 1), 2, 9);
        Sheet.felt(x, 0, 0, 1, 1);
        sheet.due("one left", x.tells(0, 1), 1);
        Sheet.felt(x, 0, 0, 1, 1, 0, 0, 1, 2);
        sheet.parts("without any left", what -> x.tells(0, what));
        x.seconds(1);
        sheet.parts("GONE", what -> x.tells(1, what));
        for (int second : new int[] {996, 997, 998, 999}) {
            SoapDeeds late = sheet.inAt(second, "room 3 by 3;bubble p at 0 0 film 9 size 1;");
            sheet.due("in SECOND " + second, late.tells(0, 0), second < 999 ? 1 : NONE);
            sheet.due("in SECOND " + second, late.tells(0, 1), second < 999 ? 1 : NONE);
            Sheet.felt(late, 2, 0, 0, 0);
            sheet.due("by what can be FELT, or not, in " + second, late.tells(0, 1), second <= 997 ? 1 : NONE);
        }
        sheet.due("without a room", new SoapDeeds().tells(0, 0), NONE);
    }
}
