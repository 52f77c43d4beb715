/** Terms III: what is AHEAD, DOORS, STAND, SHINE, LAST, ODDS, FELT, FROM, TELLING. */
final class EdgesOfAhead {
    private static final int NONE = Sheet.NONE;
    // p and q look alike from the first SECOND on, but the one that drifted has a film of 8, the other one of 9.
    private static final String ALIKE = "room 3 by 3;door a at 0 0 blows 1 reach 6;open a;bubble p at 0 0 film 9 size 1;thins drift;";
    // Six shut DOORS, all of which lead from one to the next, to the HEIR in the last corner.
    private static final String STAIRS = "room 7 by 7;door a at 0 0 blows 1 reach 1;door b at 2 0 blows 2 reach 1;door c at 2 2 blows 1 reach 1;"
        + "door d at 4 2 blows 2 reach 1;door e at 4 4 blows 1 reach 1;door f at 6 4 blows 2 reach 1;heir h at 6 6 tall 0;heir k at 0 0 tall 0;";
    private final Sheet sheet;

    EdgesOfAhead(Sheet sheet) {
        this.sheet = sheet;
    }

    void run() {
        sheet.section("III");
        ahead();
        doors();
        stand();
        shine();
        last();
        odds();
        felt();
        from();
        telling();
        image();
    }

    private void ahead() {
        sheet.says("AHEAD are SECONDS as they come from now on without DRAWS (40 at most, not beyond SECOND 999).");
        String text = "room 3 by 3;bubble p at 1 1 film 99 size 1;breath 100;";
        for (int second : new int[] {0, 1, 958, 959, 960, 961, 997, 998, 999}) {
            SoapDeeds x = sheet.inAt(second, text);
            for (int n : new int[] {0, 1, 2, 38, 39, 40, 41, 42}) {
                boolean comes = n <= 40 && second + n <= 999;
                sheet.due("film behind " + n + " from " + second, x.later(0, n, 2), comes ? 99 - n : NONE);
                sheet.due("column behind " + n + " from " + second, x.later(0, n, 0), comes ? 1 : NONE);
            }
            sheet.due("no DRAW", x.has(12), 1);
            sheet.due("none goes by", x.has(5), second);
            sheet.due("film", x.bubble(0, 2), 99);
        }
        // From now on, not from the first SECOND.
        SoapDeeds x = sheet.in("room 3 by 3;bubble p at 1 1 film 50 size 1;thins second;");
        x.seconds(3);
        sheet.due("film in SECOND 3", x.later(0, 0, 2), 47);
        sheet.due("behind one", x.later(0, 1, 2), 44);
        sheet.due("behind two", x.later(0, 2, 2), 40);
    }

    private void doors() {
        sheet.says("DOORS for a DEED, a HEIR are the fewest of them, changed now (opened, shut), so that he owns it behind n SECONDS; of like ones the least bits.");
        SoapDeeds x = sheet.in(STAIRS + "bubble p at 0 0 film 13 size 1;");
        sheet.due("all six", x.doors(0, 0, 13), 63);
        sheet.due("one SECOND less", x.doors(0, 0, 12), NONE);
        sheet.due("none of them", x.doors(0, 1, 13), 0);
        for (int door = 0; door < 6; door++) {
            x.swing(door, 1);
            sheet.due("those that are shut still", x.doors(0, 0, 13), 63 & ~((2 << door) - 1));
        }
        sheet.due("to shut the first is enough", x.doors(0, 1, 13), 1);
        // The last of six alone.
        x = sheet.in(STAIRS + "bubble p at 6 4 film 3 size 1;");
        sheet.due("the sixth", x.doors(0, 0, 3), 32);
        // Of like ones the least bits: b or d alone (2, 8), b with d, too; c alone never.
        x = sheet.in("room 3 by 3;door a at 2 2 blows 1 reach 1;door b at 0 0 blows 1 reach 2;door c at 0 0 blows 2 reach 2;door d at 0 0 blows 1 reach 1;"
            + "heir h at 2 0 tall 0;heir k at 0 2 tall 0;bubble p at 0 0 film 3 size 1;");
        sheet.due("the least of like ones", x.doors(0, 0, 3), 2);
        sheet.due("the only one", x.doors(0, 1, 3), 4);
        x.swing(1, 1);
        sheet.due("none", x.doors(0, 0, 3), 0);
        sheet.due("one shut, one opened", x.doors(0, 1, 3), 6);
        // One of more bits is fewer than two of less: c (4) against a and b (3).
        x = sheet.in("room 4 by 4;door a at 0 0 blows 1 reach 1;door b at 2 0 blows 2 reach 1;door c at 0 0 blows 2 reach 1;door d at 2 2 blows 3 reach 1;"
            + "open d;heir h at 0 2 tall 0;bubble p at 0 0 film 7 size 1;");
        sheet.due("fewer, not less bits", x.doors(0, 0, 7), 4);
        sheet.due("nothing was swung", x.door(2, 4), 0);
    }

    private void standIs(SoapDeeds x, int heir, int n, int column, int row, int deeds) {
        sheet.due("column", x.stand(heir, n, 0), column);
        sheet.due("row", x.stand(heir, n, 1), row);
        sheet.due("DEEDS", x.stand(heir, n, 2), deeds);
    }

    private void stand() {
        sheet.says("To STAND is the CELL in which a HEIR, put there now (his own, or one in which none is), owns most DEEDS behind n SECONDS; of like ones the first,"
            + " row by row.");
        String heirs = "room 3 by 3;heir h at 1 1 tall 0;heir k at 2 0 tall 0;";
        // None bursts: each CELL is like another, the first CELL of the room is told, or the first in which none is.
        standIs(sheet.in(heirs), 0, 1, 0, 0, 0);
        standIs(sheet.in("room 3 by 3;heir h at 1 1 tall 0;heir k at 0 0 tall 0;"), 0, 1, 1, 0, 0);
        standIs(sheet.in("room 3 by 3;heir h at 1 1 tall 0;heir k at 0 0 tall 0;heir l at 1 0 tall 0;heir m at 2 0 tall 0;"), 0, 1, 0, 1, 0);
        standIs(sheet.in("room 3 by 3;heir h at 0 0 tall 0;heir k at 1 0 tall 0;"), 0, 1, 0, 0, 0);
        // His own CELL; another's is none for him.
        standIs(sheet.in(heirs + "bubble p at 1 1 film 1 size 1;"), 0, 1, 1, 1, 1);
        standIs(sheet.in(heirs + "bubble p at 2 0 film 1 size 1;"), 0, 1, 0, 0, 0);
        standIs(sheet.in(heirs + "bubble p at 2 0 film 1 size 1;"), 1, 1, 2, 0, 1);
        // Row by row: 2 1 is ahead of 0 2, though its column is more.
        standIs(sheet.in(heirs + "bubble p at 0 2 film 1 size 1;bubble q at 2 1 film 1 size 1;"), 0, 1, 2, 1, 1);
        standIs(sheet.in(heirs + "bubble p at 2 2 film 1 size 1;bubble q at 0 2 film 1 size 1;"), 0, 1, 0, 2, 1);
        // Most: two in the last CELL are more than one in the first.
        String two = heirs + "bubble p at 0 0 film 2 size 1;bubble q at 2 2 film 2 size 1;bubble r at 2 1 film 1 size 1;door d at 2 0 blows 2 reach 2;open d;"
            + "thins if(second=0,0,9);";
        standIs(sheet.in(two), 0, 1, 0, 0, 0);
        standIs(sheet.in(two), 0, 2, 2, 2, 2);
        SoapDeeds x = sheet.in(heirs + "bubble p at 1 1 film 1 size 1;bubble q at 0 2 film 2 size 1;");
        x.seconds(1);
        standIs(x, 0, 1, 0, 2, 2);
        sheet.due("he did not go", x.heir(0, 0), 1);
    }

    private void shineIs(SoapDeeds x, int n, int column, int row, int rent) {
        sheet.due("column", x.shine(n, 0), column);
        sheet.due("row", x.shine(n, 1), row);
        sheet.due("RENT", x.shine(n, 2), rent);
    }

    private void shine() {
        sheet.says("SHINE is the CELL to which the lamp, carried now, brings the most RENT of all DEEDS together behind n SECONDS; of like ones the first,"
            + " row by row.");
        shineIs(sheet.in("room 3 by 5;"), 1, 0, 0, 0);
        shineIs(sheet.in("room 3 by 5;lamp 1 1;"), 1, 0, 0, 0);
        shineIs(sheet.in("room 3 by 5;bubble p at 2 4 film 50 size 1;hue 1;"), 1, 2, 4, 1);
        shineIs(sheet.in("room 3 by 5;lamp 2 4;bubble p at 2 4 film 50 size 1;hue 1;"), 1, 2, 4, 1);
        shineIs(sheet.in("room 3 by 5;bubble p at 0 2 film 50 size 1;bubble q at 2 1 film 50 size 1;hue 5;"), 1, 2, 1, 5);
        shineIs(sheet.in("room 3 by 5;bubble p at 0 2 film 50 size 6;bubble q at 2 1 film 50 size 5;hue size;"), 1, 0, 2, 6);
        shineIs(sheet.in("room 3 by 5;bubble p at 0 2 film 50 size 6;bubble q at 2 1 film 50 size 5;hue size;"), 20, 0, 2, 120);
        // RENT that is there counts, 999 at most for each.
        SoapDeeds x = sheet.in("room 3 by 3;bubble p at 0 0 film 50 size 1;bubble q at 1 0 film 50 size 1;hue 9;");
        int[] image = Sheet.image(x);
        image[15] = 3;
        image[16] = 226;
        sheet.due("RENT of 994", Sheet.on(x, image), true);
        shineIs(x, 1, 1, 0, 1003);
        sheet.due("no lamp was carried", x.lamp(0), NONE);
    }

    private void last() {
        sheet.says("To LAST is the least film (1 .. 99) that a BUBBLE that floats must have now, so that it floats behind n SECONDS.");
        String p = "room 3 by 3;bubble p at 0 0 film 50 size 1;";
        sheet.due("1", sheet.in(p + "thins 0;").lasts(0, 20), 1);
        sheet.due("2", sheet.in(p).lasts(0, 1), 2);
        sheet.due("21", sheet.in(p).lasts(0, 20), 21);
        sheet.due("98", sheet.in(p + "bursts film<97;").lasts(0, 1), 98);
        sheet.due("99", sheet.in(p + "bursts film<98;").lasts(0, 1), 99);
        sheet.due("none", sheet.in(p + "bursts film<99;").lasts(0, 1), NONE);
        sheet.due("96", sheet.in(p + "thins 5;").lasts(0, 19), 96);
        sheet.due("none for one more", sheet.in(p + "thins 5;").lasts(0, 20), NONE);
        // The least of all that last, though more films above it do not.
        sheet.due("a gap", sheet.in(p + "thins 0;bursts film>1 and film<99;").lasts(0, 1), 1);
        SoapDeeds x = sheet.in(p + "bubble q at 1 0 film 7 size 1;door d at 1 0 blows 3 reach 1;open d;");
        sheet.due("one that is joined never lasts", x.lasts(1, 1), NONE);
        sheet.due("one that joins another has its film", x.lasts(0, 6), 1);
        sheet.due("the film stays", x.bubble(0, 2), 50);
    }

    private void odds() {
        sheet.says("ODDS of a DEED, a HEIR are by how many of all rows of a number below 100, a WAY, he owns it behind the next SECOND by the seed.");
        // In a corner two WAYS are walls.
        for (int breath : new int[] {0, 1, 2, 50, 99, 100}) {
            SoapDeeds x = sheet.in("room 3 by 3;heir h at 0 0 tall 0;heir k at 1 0 tall 0;heir l at 0 1 tall 0;heir m at 2 2 tall 0;"
                + "bubble p at 0 0 film 1 size 1;breath " + breath + ";");
            sheet.due("stays, " + breath, x.odds(0, 0), 400 - 2 * breath);
            sheet.due("goes to the right, " + breath, x.odds(0, 1), breath);
            sheet.due("goes down, " + breath, x.odds(0, 2), breath);
            sheet.due("never, " + breath, x.odds(0, 3), 0);
            sheet.due("no DRAW", x.has(12), 1);
            sheet.due("no SECOND", x.has(5), 0);
            x.seconds(1);
            sheet.due("owned already", x.odds(0, 0), 400);
            sheet.due("by another", x.odds(0, 1), 0);
        }
        SoapDeeds x = sheet.in("room 3 by 3;heir a at 1 0 tall 0;heir b at 2 1 tall 0;heir c at 1 2 tall 0;heir d at 0 1 tall 0;bubble p at 1 1 film 1 size 1;breath 7;");
        for (int way = 0; way < 4; way++) {
            sheet.due("WAY " + way, x.odds(0, way), 7);
        }
        x = sheet.in("room 3 by 3;heir a at 1 0 tall 0;bubble p at 1 1 film 2 size 1;breath 100;");
        sheet.due("the next SECOND alone", x.odds(0, 0), 0);
    }

    private void felt() {
        sheet.says("FELT are rows of SECONDS AHEAD (0 .. 30), a BUBBLE, column, row where it is behind these (255 both: GONE):");
        String p = "room 3 by 5;bubble p at 0 0 film 31 size 1;bubble q at 1 1 film 30 size 1;";
        SoapDeeds x = sheet.in(p);
        sheet.due("0", Sheet.felt(x, 0, 0, 2, 4), 1);
        sheet.due("where it is now", x.from(0, 0), 34);
        sheet.due("one", x.from(0, NONE), 1);
        sheet.due("30", Sheet.felt(x, 30, 0, 2, 4), 1);
        sheet.due("behind 30", x.from(0, 0), 34);
        sheet.due("31", Sheet.felt(x, 31, 0, 2, 4), NONE);
        sheet.due("255", Sheet.felt(x, 255, 0, 2, 4), NONE);
        sheet.due("BUBBLE 1", Sheet.felt(x, 0, 1, 1, 1), 1);
        sheet.due("BUBBLE 2", Sheet.felt(x, 0, 2, 1, 1), NONE);
        sheet.due("BUBBLE 255", Sheet.felt(x, 0, 255, 1, 1), NONE);
        sheet.due("column 2", Sheet.felt(x, 0, 0, 2, 0), 1);
        sheet.due("column 3", Sheet.felt(x, 0, 0, 3, 0), NONE);
        sheet.due("row 4", Sheet.felt(x, 0, 0, 0, 4), 1);
        sheet.due("row 5", Sheet.felt(x, 0, 0, 0, 5), NONE);
        sheet.due("254 both", Sheet.felt(x, 0, 0, 254, 254), NONE);
        sheet.due("254, 255", Sheet.felt(x, 0, 0, 254, 255), NONE);
        sheet.due("255, 254", Sheet.felt(x, 0, 0, 255, 254), NONE);
        sheet.due("a column, 255", Sheet.felt(x, 0, 0, 0, 255), NONE);
        sheet.due("255, a row", Sheet.felt(x, 0, 0, 255, 0), NONE);
        // q is GONE behind 30, not behind 29; p behind neither.
        sheet.due("GONE behind 30", Sheet.felt(x, 30, 1, 255, 255), 1);
        sheet.due("from all CELLS", x.from(1, NONE), 15);
        sheet.due("GONE behind 29", Sheet.felt(x, 29, 1, 255, 255), 1);
        // In p's CELL it is joined, and GONE.
        sheet.due("from p's CELL alone", x.from(1, NONE), 1);
        sheet.due("p's CELL", x.from(1, 0), 0);
        sheet.due("p GONE behind 30", Sheet.felt(x, 30, 0, 255, 255), 1);
        sheet.due("from none", x.from(0, NONE), 0);
        sheet.due("GONE now, which floats", Sheet.felt(x, 0, 0, 255, 255), 1);
        sheet.due("from none", x.from(1, NONE), 0);
    }

    private void from() {
        sheet.says("FROM are the CELLS of the room (those in which another one floats, too; it is joined to none by being there, those in one CELL drift,"
            + " and JOIN in the SECONDS that come) in which a told BUBBLE that floats can be now, so that all is so.");
        String still = "room 3 by 3;bubble p at 0 0 film 9 size 1;bubble q at 2 2 film 9 size 1;";
        SoapDeeds x = sheet.in(still);
        sheet.due("all CELLS, q's too", x.from(0, NONE), 9);
        Sheet.felt(x, 0, 0, 2, 2, 0, 1, 2, 2);
        sheet.due("both in one CELL now", x.from(0, NONE), 1);
        sheet.due("it", x.from(0, 0), 18);
        Sheet.felt(x, 0, 0, 2, 2, 0, 1, 255, 255);
        sheet.due("joined to none by being there", x.from(0, NONE), 0);
        Sheet.felt(x, 1, 1, 255, 255);
        sheet.due("q is joined in the next SECOND", x.from(0, NONE), 1);
        sheet.due("it", x.from(0, 0), 18);
        Sheet.felt(x, 1, 0, 255, 255);
        sheet.due("p is of the least number, so never GONE", x.from(0, NONE), 0);
        // Those in one CELL drift, and JOIN behind that.
        x = sheet.in("room 3 by 3;door d at 0 0 blows 1 reach 1;open d;bubble p at 0 0 film 9 size 1;bubble q at 2 2 film 9 size 1;");
        Sheet.felt(x, 1, 1, 255, 255, 1, 0, 1, 0);
        sheet.due("q with p drifts to 1 0", x.from(1, NONE), 1);
        sheet.due("from 0 0", x.from(1, 0), 0);
        // All is so: each row counts.
        x = sheet.in(still);
        Sheet.felt(x, 1, 0, 1, 1, 2, 0, 1, 1);
        sheet.due("two rows that agree", x.from(0, NONE), 1);
        Sheet.felt(x, 1, 0, 1, 1, 2, 0, 1, 2);
        sheet.due("two rows that do not", x.from(0, NONE), 0);
        Sheet.felt(x, 2, 0, 1, 2, 1, 0, 1, 1);
        sheet.due("in another order", x.from(0, NONE), 0);
        Sheet.felt(x, 1, 1, 2, 2);
        sheet.due("of another one: all but its CELL", x.from(0, NONE), 8);
        Sheet.felt(x, 1, 1, 2, 1);
        sheet.due("of another one, not so", x.from(0, NONE), 0);
        // Others go on when it is GONE, whatever was FELT of them.
        x = sheet.in("room 3 by 3;door d at 0 0 blows 1 reach 6;open d;bubble p at 2 2 film 1 size 1;bubble q at 0 0 film 9 size 1;");
        Sheet.felt(x, 1, 0, 255, 255, 2, 1, 2, 0);
        sheet.due("q is at 2 0 behind two, but where p joins it", x.from(0, NONE), 8);
        Sheet.felt(x, 2, 1, 1, 0);
        sheet.due("q is at 1 0 no more", x.from(0, NONE), 0);
        Sheet.felt(x, 3, 1, 2, 0);
        sheet.due("q is at 2 0 still", x.from(0, NONE), 8);
        x = sheet.in("room 3 by 3;bubble p at 0 0 film 1 size 1;");
        x.seconds(1);
        sheet.due("GONE", x.from(0, NONE), NONE);
        sheet.due("GONE", x.from(0, 0), NONE);
    }

    private SoapDeeds alike(int second, int burst) {
        SoapDeeds x = sheet.inAt(second, ALIKE + "bursts second=" + burst + " and film=8;");
        sheet.due("feel()", Sheet.felt(x, 1, 0, 2, 0), 1);
        sheet.due("two are left", x.from(0, NONE), 2);
        return x;
    }

    private void tellsIs(String what, SoapDeeds x, int bubble, int seconds, int left) {
        sheet.due(what + ": when", x.tells(bubble, 0), seconds);
        sheet.due(what + ": left", x.tells(bubble, 1), left);
    }

    private void telling() {
        sheet.says("TELLING is the number of SECONDS AHEAD (1 .. 30) behind which by its CELL, whatever it is, or GONE, the most of these left are fewest;"
            + " of like ones the first.");
        for (int burst : new int[] {1, 2, 15, 28, 29}) {
            tellsIs("told in SECOND " + burst, alike(0, burst), 0, burst + 1, 1);
        }
        tellsIs("SECOND 30 is too late", alike(0, 30), 0, 1, 2);
        tellsIs("SECOND 31 is too late", alike(0, 31), 0, 1, 2);
        tellsIs("from SECOND 5", alike(5, 34), 0, 30, 1);
        tellsIs("from SECOND 5 too late", alike(5, 35), 0, 1, 2);
        tellsIs("thirty come", alike(969, 998), 0, 30, 1);
        tellsIs("29 come", alike(970, 998), 0, 29, 1);
        tellsIs("the 30th does not", alike(970, 999), 0, 1, 2);
        // By its CELL or GONE: two of nine burst in the first SECOND, seven are each in their own.
        tellsIs("two GONE", sheet.in("room 3 by 3;heir h at 0 0 tall 1;heir k at 1 0 tall 1;bubble p at 0 0 film 9 size 1;bursts tall=1;"), 0, 1, 2);
        tellsIs("all GONE", sheet.in("room 3 by 3;bubble p at 0 0 film 1 size 1;"), 0, 1, 9);
        tellsIs("each alone", sheet.in("room 3 by 5;bubble p at 0 0 film 9 size 1;"), 0, 1, 1);
        // The first of like ones, though later ones tell as much.
        tellsIs("the first", sheet.in("room 3 by 3;bubble p at 0 0 film 90 size 1;"), 0, 1, 1);
        // Behind one SECOND at most 2 are in one CELL, behind two 3: the fewest counts, not the last.
        tellsIs("fewest", sheet.in(ALIKE), 0, 1, 2);
        for (int way = 0; way < 4; way++) {
            String corner = way == 0 ? "0 2" : way == 3 ? "2 0" : "0 0";
            tellsIs("fewest, way " + way, sheet.in("room 3 by 3;door a at " + corner + " blows " + way + " reach 6;open a;bubble p at 0 0 film 9 size 1;"), 0, 1, 2);
            tellsIs("fewest, way " + way, sheet.in("room 7 by 7;door a at " + corner.replace('2', '6') + " blows " + way
                + " reach 6;open a;bubble p at 3 3 film 9 size 1;"), 0, 1, 2);
        }
    }

    private void image() {
        sheet.says("AN IMAGE: SECOND (two bytes, the higher first); the lamp's column, row (255 both: none); for each DOOR 1 if it is OPEN, else 0;"
            + " for each HEIR column, row; for each BUBBLE column, row (255 both: GONE), film, size, its DEEDS, as bits (0 each: GONE);"
            + " for each DEED the HEIR who owns it (255: none), its RENT (two bytes);");
        SoapDeeds x = sheet.in("room 4 by 5;lamp 2 3;door a at 0 0 blows 0 reach 1;door b at 1 0 blows 0 reach 1;open b;heir h at 3 4 tall 7;heir k at 1 2 tall 0;"
            + "bubble p at 2 3 film 41 size 7;bubble q at 1 2 film 2 size 6;bubble r at 0 3 film 2 size 5;thins if(second=1,1,0);");
        imageIs("at first", x, 0, 0, 2, 3, 0, 1, 3, 4, 1, 2, 2, 3, 41, 7, 1, 1, 2, 2, 6, 2, 0, 3, 2, 5, 4, 255, 0, 0, 255, 0, 0, 255, 0, 0, 0);
        x.seconds(1);
        imageIs("behind one", x, 0, 1, 2, 3, 0, 1, 3, 4, 1, 2, 2, 3, 41, 7, 1, 1, 2, 2, 6, 2, 0, 3, 2, 5, 4, 255, 0, 4, 255, 0, 0, 255, 0, 0, 0);
        x = sheet.in("room 4 by 5;lamp 2 3;door a at 0 0 blows 0 reach 1;open a;heir h at 3 4 tall 7;heir k at 1 2 tall 0;"
            + "bubble p at 2 3 film 41 size 7;bubble q at 1 2 film 1 size 6;bubble r at 0 3 film 1 size 5;");
        x.seconds(1);
        imageIs("owned, LOST", x, 0, 1, 2, 3, 1, 3, 4, 1, 2, 2, 3, 40, 7, 1, 255, 255, 0, 0, 0, 255, 255, 0, 0, 0, 255, 0, 4, 1, 0, 0, 255, 0, 0, 0);
        imageIs("no lamp", sheet.in("room 3 by 3;"), 0, 0, 255, 255, 0);
        for (int second : new int[] {255, 256, 257, 511, 512, 998, 999}) {
            imageIs("SECOND " + second, sheet.inAt(second, "room 3 by 3;lamp 2 2;"), second / 256, second % 256, 2, 2, 0);
        }
        sheet.says("last a byte: all ahead from 197 on, c = (5 c + it) mod 251.");
        // 197: 985 (232), 1160 (156), 780 + 255 = 1035 (31), 155 + 255 = 410 (159).
        x = sheet.in("room 3 by 3;");
        sheet.due("the last byte", x.image(), 5);
        sheet.due("worked out by hand", x.octet(4), 159);
        boolean[] seen = new boolean[256];
        for (int second = 0; second < 600; second++) {
            int last = Sheet.image(sheet.inAt(second, "room 3 by 3;lamp 0 0;"))[4];
            seen[last] = true;
        }
        sheet.due("0 comes", seen[0], true);
        sheet.due("250 comes", seen[250], true);
        for (int c = 251; c < 256; c++) {
            sheet.due(c + " comes", seen[c], false);
        }
    }

    private void imageIs(String what, SoapDeeds x, int... want) {
        Sheet.checked(want);
        sheet.due(what + ": how many", x.image(), want.length);
        for (int k = 0; k < want.length; k++) {
            sheet.due(what + ": byte " + k, x.octet(k), want[k]);
        }
    }
}
